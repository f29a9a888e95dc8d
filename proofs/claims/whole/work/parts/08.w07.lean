/-! printed by wip/whole/gen.py: the bytecode does what the functions say -/
set_option maxRecDepth 100000 in
set_option maxHeartbeats 4000000 in
theorem w_MD_spoils_L106 (X : Cx) (ad : Nat → Nat) (v2_3 : Int32) (v3_3 : Int32) (v6_3 : Int32) (v7_2 : Int32) (kx : Int32 → Int32 → Mem → Option (Int32 × Mem)) (hkx : ∀ (e4 : Int32) (e5 : Int32) (Me : Mem), G X ad mi_MD_spoils (φIM) 219 [(0, .ref (ad 33)), (2, .int v2_3), (3, .int v3_3), (4, .int e4), (5, .int e5), (6, .int v6_3), (7, .int v7_2)] [] Me (kx e4 e5 Me)) : ∀ (n : Nat) (s : Int32 × Int32 × Int32 × Mem), G X ad mi_MD_spoils (φIM) 106 [(0, .ref (ad 33)), (2, .int v2_3), (3, .int v3_3), (4, .int s.1), (5, .int s.2.1), (6, .int v6_3), (7, .int v7_2), (8, .int s.2.2.1)] [] s.2.2.2 (LOOP (fun aq sq => MD_spoils_L106 v6_3 v7_2 kx aq sq.1 sq.2.1 sq.2.2.1 sq.2.2.2) n s) := by
  refine LOOP_rule (fun (s : Int32 × Int32 × Int32 × Mem) o => G X ad mi_MD_spoils (φIM) 106 [(0, .ref (ad 33)), (2, .int v2_3), (3, .int v3_3), (4, .int s.1), (5, .int s.2.1), (6, .int v6_3), (7, .int v7_2), (8, .int s.2.2.1)] [] s.2.2.2 o) (fun _ => G_none) (fun ag hag s => ?_)
  obtain ⟨v4_3, v5_3, v8_1, M7⟩ := s
  show G X ad mi_MD_spoils (φIM) 106 [(0, .ref (ad 33)), (2, .int v2_3), (3, .int v3_3), (4, .int v4_3), (5, .int v5_3), (6, .int v6_3), (7, .int v7_2), (8, .int v8_1)] [] M7 (MD_spoils_L106 v6_3 v7_2 kx ag v4_3 v5_3 v8_1 M7)
  unfold MD_spoils_L106
  refine G_iload dX10_spoils_106 7 rfl ?_
  refine G_iconst (v := 3) dX10_spoils_108 rfl ?_
  refine G_icmp_ge 219 dX10_spoils_109 (by decide) (fun _ => ?_) (fun _ => ?_)
  refine G_sub [0, 1, 2, 3, 4, 5, 6] rfl ?_
  exact hkx v4_3 v5_3 M7
  refine G_iload dX10_spoils_112 6 rfl ?_
  refine G_iload dX10_spoils_114 5 rfl ?_
  refine G_icmp_eq 219 dX10_spoils_116 (by decide) (fun _ => ?_) (fun _ => ?_)
  refine G_sub [0, 1, 2, 3, 4, 5, 6] rfl ?_
  exact hkx v4_3 v5_3 M7
  refine G_bipush (v := 49) dX10_spoils_119 rfl ?_
  refine G_iload dX10_spoils_121 7 rfl ?_
  refine G_imul dX10_spoils_123 ?_
  refine G_bipush (v := 7) dX10_spoils_124 rfl ?_
  refine G_iload dX10_spoils_126 5 rfl ?_
  refine G_imul dX10_spoils_128 ?_
  refine G_iadd dX10_spoils_129 ?_
  refine G_iload dX10_spoils_130 6 rfl ?_
  refine G_iadd dX10_spoils_132 ?_
  refine G_nmI (fun v9_1 => ?_)
  refine G_istore dX10_spoils_133 (by decide) (L' := [(9, .int v9_1), (0, .ref (ad 33)), (2, .int v2_3), (3, .int v3_3), (4, .int v4_3), (5, .int v5_3), (6, .int v6_3), (7, .int v7_2), (8, .int v8_1)]) rfl ?_
  refine G_aload_n dX10_spoils_135 1 rfl ?_
  refine G_getR hclX10 (by decide) rfl 21 (by decide) rfl wd_917 dX10_spoils_136 ?_
  refine G_iload dX10_spoils_139 0 rfl ?_
  refine G_iald (by decide) rfl dX10_spoils_141 ?_
  refine G_nmI (fun v10_1 => ?_)
  refine G_istore dX10_spoils_142 (by decide) (L' := [(10, .int v10_1), (9, .int v9_1), (0, .ref (ad 33)), (2, .int v2_3), (3, .int v3_3), (4, .int v4_3), (5, .int v5_3), (6, .int v6_3), (7, .int v7_2), (8, .int v8_1)]) rfl ?_
  refine G_aload_n dX10_spoils_144 2 rfl ?_
  refine G_getR hclX10 (by decide) rfl 21 (by decide) rfl wd_917 dX10_spoils_145 ?_
  refine G_iload dX10_spoils_148 1 rfl ?_
  refine G_iload dX10_spoils_150 0 rfl ?_
  refine G_jp (fun kq => ∀ (s_1 : Int32), G X ad mi_MD_spoils (φIM) 160 [(0, .ref (ad 33)), (2, .int v2_3), (3, .int v3_3), (4, .int v4_3), (5, .int v5_3), (6, .int v6_3), (7, .int v7_2), (8, .int v8_1), (9, .int v9_1), (10, .int v10_1)] [.int s_1, .int v9_1, .ref (ad 49)] M7 (kq s_1)) (fun s_1 => ?_) (fun k_1 hk_1 => ?_)
  refine G_iast (by decide) rfl dX10_spoils_160 (fun M8 => ?_)
  refine G_aload_n dX10_spoils_161 0 rfl ?_
  refine G_callV_I (m_MD_wrongOf M8) cal_MD_wrongOf ⟨Nat.le_of_ble_eq_true rfl, Nat.le_of_ble_eq_true rfl⟩ wd_1208 hclX10 (by decide) rfl [] rfl rfl rfl (Nat.le_of_ble_eq_true rfl) dX10_spoils_162 (fun r_6 => ?_)
  refine G_istore dX10_spoils_165 (by decide) (L' := [(11, .int r_6), (0, .ref (ad 33)), (2, .int v2_3), (3, .int v3_3), (4, .int v4_3), (5, .int v5_3), (6, .int v6_3), (7, .int v7_2), (8, .int v8_1), (9, .int v9_1), (10, .int v10_1)]) rfl ?_
  refine G_aload_n dX10_spoils_167 1 rfl ?_
  refine G_getR hclX10 (by decide) rfl 21 (by decide) rfl wd_917 dX10_spoils_168 ?_
  refine G_iload dX10_spoils_171 9 rfl ?_
  refine G_iload dX10_spoils_173 10 rfl ?_
  refine G_iast (by decide) rfl dX10_spoils_175 (fun M9 => ?_)
  refine G_iload dX10_spoils_176 4 rfl ?_
  refine G_bipush (v := -9) dX10_spoils_178 rfl ?_
  refine G_jp (fun kq => G X ad mi_MD_spoils (φIM) 193 [(0, .ref (ad 33)), (2, .int v2_3), (3, .int v3_3), (6, .int v6_3), (7, .int v7_2), (8, .int v8_1), (11, .int r_6)] [] M9 (kq)) ?_ (fun k_2 hk_2 => ?_)
  refine G_bipush (v := 100) dX10_spoils_193 rfl ?_
  refine G_iload dX10_spoils_195 3 rfl ?_
  refine G_imul dX10_spoils_197 ?_
  refine G_bipush (v := 10) dX10_spoils_198 rfl ?_
  refine G_iload dX10_spoils_200 4 rfl ?_
  refine G_imul dX10_spoils_202 ?_
  refine G_iadd dX10_spoils_203 ?_
  refine G_iload dX10_spoils_204 5 rfl ?_
  refine G_iadd dX10_spoils_206 ?_
  refine G_nmI (fun v4_4 => ?_)
  refine G_istore dX10_spoils_207 (by decide) (L' := [(4, .int v4_4), (0, .ref (ad 33)), (2, .int v2_3), (3, .int v3_3), (6, .int v6_3), (7, .int v7_2), (8, .int v8_1), (11, .int r_6)]) rfl ?_
  refine G_iload dX10_spoils_209 7 rfl ?_
  refine G_istore dX10_spoils_211 (by decide) (L' := [(5, .int r_6), (4, .int v4_4), (0, .ref (ad 33)), (2, .int v2_3), (3, .int v3_3), (6, .int v6_3), (7, .int v7_2), (8, .int v8_1), (11, .int r_6)]) rfl ?_
  refine G_iinc (v8_1 + 1) dX10_spoils_213 7 rfl rfl (by decide) (L' := [(8, .int (v8_1 + 1)), (5, .int r_6), (4, .int v4_4), (0, .ref (ad 33)), (2, .int v2_3), (3, .int v3_3), (6, .int v6_3), (7, .int v7_2), (11, .int r_6)]) rfl ?_
  refine G_goto 106 dX10_spoils_216 (by decide) ?_
  refine G_sub [3, 4, 5, 2, 1, 6, 7, 0] rfl ?_
  exact hag (v4_4, r_6, v8_1 + 1, M9)
  refine G_icmp_eq 193 dX10_spoils_180 (by decide) (fun _ => ?_) (fun _ => ?_)
  refine G_sub [1, 2, 3, 6, 7, 8, 0] rfl ?_
  exact hk_2
  refine G_iload dX10_spoils_183 0 rfl ?_
  refine G_iload dX10_spoils_185 5 rfl ?_
  refine G_icmp_lt 193 dX10_spoils_187 (by decide) (fun _ => ?_) (fun _ => ?_)
  refine G_sub [1, 2, 3, 6, 7, 8, 0] rfl ?_
  exact hk_2
  refine G_goto 213 dX10_spoils_190 (by decide) ?_
  refine G_iinc (v8_1 + 1) dX10_spoils_213 8 rfl rfl (by decide) (L' := [(8, .int (v8_1 + 1)), (11, .int r_6), (0, .ref (ad 33)), (2, .int v2_3), (3, .int v3_3), (4, .int v4_3), (5, .int v5_3), (6, .int v6_3), (7, .int v7_2), (9, .int v9_1), (10, .int v10_1)]) rfl ?_
  refine G_goto 106 dX10_spoils_216 (by decide) ?_
  refine G_sub [2, 3, 4, 5, 6, 7, 8, 0] rfl ?_
  exact hag (v4_3, v5_3, v8_1 + 1, M9)
  refine G_if_le 159 dX10_spoils_152 (by decide) (fun _ => ?_) (fun _ => ?_)
  refine G_iconst (v := 1) dX10_spoils_159 rfl ?_
  refine G_sub [2, 3, 4, 5, 6, 7, 8, 9, 1, 0] rfl ?_
  exact hk_1 1
  refine G_iconst (v := 0) dX10_spoils_155 rfl ?_
  refine G_goto 160 dX10_spoils_156 (by decide) ?_
  refine G_sub [2, 3, 4, 5, 6, 7, 8, 9, 1, 0] rfl ?_
  exact hk_1 0

set_option maxRecDepth 100000 in
set_option maxHeartbeats 4000000 in
theorem w_MD_spoils_L94 (X : Cx) (ad : Nat → Nat) (v2_2 : Int32) (v3_2 : Int32) (v6_2 : Int32) (kx : Int32 → Int32 → Mem → Option (Int32 × Mem)) (hkx : ∀ (e4 : Int32) (e5 : Int32) (Me : Mem), G X ad mi_MD_spoils (φIM) 225 [(0, .ref (ad 33)), (2, .int v2_2), (3, .int v3_2), (4, .int e4), (5, .int e5), (6, .int v6_2)] [] Me (kx e4 e5 Me)) : ∀ (n : Nat) (s : Int32 × Int32 × Int32 × Mem), G X ad mi_MD_spoils (φIM) 94 [(0, .ref (ad 33)), (2, .int v2_2), (3, .int v3_2), (4, .int s.1), (5, .int s.2.1), (6, .int v6_2), (7, .int s.2.2.1)] [] s.2.2.2 (LOOP (fun aq sq => MD_spoils_L94 v6_2 kx aq sq.1 sq.2.1 sq.2.2.1 sq.2.2.2) n s) := by
  refine LOOP_rule (fun (s : Int32 × Int32 × Int32 × Mem) o => G X ad mi_MD_spoils (φIM) 94 [(0, .ref (ad 33)), (2, .int v2_2), (3, .int v3_2), (4, .int s.1), (5, .int s.2.1), (6, .int v6_2), (7, .int s.2.2.1)] [] s.2.2.2 o) (fun _ => G_none) (fun ag hag s => ?_)
  obtain ⟨v4_2, v5_2, v7_1, M6⟩ := s
  show G X ad mi_MD_spoils (φIM) 94 [(0, .ref (ad 33)), (2, .int v2_2), (3, .int v3_2), (4, .int v4_2), (5, .int v5_2), (6, .int v6_2), (7, .int v7_1)] [] M6 (MD_spoils_L94 v6_2 kx ag v4_2 v5_2 v7_1 M6)
  unfold MD_spoils_L94
  refine G_iload dX10_spoils_94 6 rfl ?_
  refine G_aload_n dX10_spoils_96 0 rfl ?_
  refine G_getI hclX10 (by decide) rfl 8 (by decide) rfl wd_904 dX10_spoils_97 ?_
  refine G_icmp_ge 225 dX10_spoils_100 (by decide) (fun _ => ?_) (fun _ => ?_)
  refine G_sub [0, 1, 2, 3, 4, 5] rfl ?_
  exact hkx v4_2 v5_2 M6
  refine G_iconst (v := 0) dX10_spoils_103 rfl ?_
  refine G_istore dX10_spoils_104 (by decide) (L' := [(8, .int 0), (0, .ref (ad 33)), (2, .int v2_2), (3, .int v3_2), (4, .int v4_2), (5, .int v5_2), (6, .int v6_2), (7, .int v7_1)]) rfl ?_
  refine G_sub [1, 2, 3, 4, 5, 6, 7, 0] rfl ?_
  refine w_MD_spoils_L106 X ad v2_2 v3_2 v6_2 v7_1 _ (fun v4_5 v5_4 M10 => ?_) _ _
  refine G_iinc (v7_1 + 1) dX10_spoils_219 6 rfl rfl (by decide) (L' := [(7, .int (v7_1 + 1)), (0, .ref (ad 33)), (2, .int v2_2), (3, .int v3_2), (4, .int v4_5), (5, .int v5_4), (6, .int v6_2)]) rfl ?_
  refine G_goto 94 dX10_spoils_222 (by decide) ?_
  refine G_sub [1, 2, 3, 4, 5, 6, 0] rfl ?_
  exact hag (v4_5, v5_4, v7_1 + 1, M10)

set_option maxRecDepth 100000 in
set_option maxHeartbeats 4000000 in
theorem w_MD_spoils_L82 (X : Cx) (ad : Nat → Nat) (v2_1 : Int32) (v3_1 : Int32) (kx : Int32 → Int32 → Mem → Option (Int32 × Mem)) (hkx : ∀ (e4 : Int32) (e5 : Int32) (Me : Mem), G X ad mi_MD_spoils (φIM) 231 [(2, .int v2_1), (3, .int v3_1), (4, .int e4), (5, .int e5)] [] Me (kx e4 e5 Me)) : ∀ (n : Nat) (s : Int32 × Int32 × Int32 × Mem), G X ad mi_MD_spoils (φIM) 82 [(0, .ref (ad 33)), (2, .int v2_1), (3, .int v3_1), (4, .int s.1), (5, .int s.2.1), (6, .int s.2.2.1)] [] s.2.2.2 (LOOP (fun aq sq => MD_spoils_L82 kx aq sq.1 sq.2.1 sq.2.2.1 sq.2.2.2) n s) := by
  refine LOOP_rule (fun (s : Int32 × Int32 × Int32 × Mem) o => G X ad mi_MD_spoils (φIM) 82 [(0, .ref (ad 33)), (2, .int v2_1), (3, .int v3_1), (4, .int s.1), (5, .int s.2.1), (6, .int s.2.2.1)] [] s.2.2.2 o) (fun _ => G_none) (fun ag hag s => ?_)
  obtain ⟨v4_1, v5_1, v6_1, M5⟩ := s
  show G X ad mi_MD_spoils (φIM) 82 [(0, .ref (ad 33)), (2, .int v2_1), (3, .int v3_1), (4, .int v4_1), (5, .int v5_1), (6, .int v6_1)] [] M5 (MD_spoils_L82 kx ag v4_1 v5_1 v6_1 M5)
  unfold MD_spoils_L82
  refine G_iload dX10_spoils_82 5 rfl ?_
  refine G_aload_n dX10_spoils_84 0 rfl ?_
  refine G_getI hclX10 (by decide) rfl 8 (by decide) rfl wd_904 dX10_spoils_85 ?_
  refine G_icmp_ge 231 dX10_spoils_88 (by decide) (fun _ => ?_) (fun _ => ?_)
  refine G_sub [1, 2, 3, 4] rfl ?_
  exact hkx v4_1 v5_1 M5
  refine G_iconst (v := 0) dX10_spoils_91 rfl ?_
  refine G_istore dX10_spoils_92 (by decide) (L' := [(7, .int 0), (0, .ref (ad 33)), (2, .int v2_1), (3, .int v3_1), (4, .int v4_1), (5, .int v5_1), (6, .int v6_1)]) rfl ?_
  refine G_sub [1, 2, 3, 4, 5, 6, 0] rfl ?_
  refine w_MD_spoils_L94 X ad v2_1 v3_1 v6_1 _ (fun v4_6 v5_5 M11 => ?_) _ _
  refine G_iinc (v6_1 + 1) dX10_spoils_225 5 rfl rfl (by decide) (L' := [(6, .int (v6_1 + 1)), (0, .ref (ad 33)), (2, .int v2_1), (3, .int v3_1), (4, .int v4_6), (5, .int v5_5)]) rfl ?_
  refine G_goto 82 dX10_spoils_228 (by decide) ?_
  refine G_sub [1, 2, 3, 4, 5, 0] rfl ?_
  exact hag (v4_6, v5_5, v6_1 + 1, M11)

set_option maxRecDepth 100000 in
set_option maxHeartbeats 4000000 in
theorem m_MD_spoils (v1 : Int32) (v2 : Int32) (M : Mem) : MC mi_MD_spoils (φIM) (fun ad => [.ref (ad 33), .int v1, .int v2]) M (MD_spoils v1 v2 M) := by
  refine MC_of rfl (by decide +kernel) (fun ad => [(0, .ref (ad 33)), (1, .int v1), (2, .int v2)]) (fun _ => rfl) (fun _ => Nat.le_of_ble_eq_true rfl) (fun X ad => ?_)
  show G X ad mi_MD_spoils (φIM) 0 [(0, .ref (ad 33)), (1, .int v1), (2, .int v2)] [] M _
  unfold MD_spoils
  refine G_aload_n dX10_spoils_0 0 rfl ?_
  refine G_iload_n dX10_spoils_1 1 rfl ?_
  refine G_aload_n dX10_spoils_2 0 rfl ?_
  refine G_getR hclX10 (by decide) rfl 22 (by decide) rfl wd_918 dX10_spoils_3 ?_
  refine G_callV_IM (m_MD_opens _ 50 isA_50 M) cal_MD_opens ⟨Nat.le_of_ble_eq_true rfl, Nat.le_of_ble_eq_true rfl⟩ wd_1096 hclX10 (by decide) rfl [.int v1, .ref (ad 50)] rfl rfl rfl (Nat.le_of_ble_eq_true rfl) dX10_spoils_6 (fun r_1 M1 => ?_)
  refine G_if_ge 18 dX10_spoils_9 (by decide) (fun _ => ?_) (fun _ => ?_)
  refine G_iload_n dX10_spoils_18 2 rfl ?_
  refine G_i2l dX10_spoils_19 ?_
  refine G_lconst (v := 0) dX10_spoils_20 rfl ?_
  refine G_lconst (v := 1) dX10_spoils_21 rfl ?_
  refine G_callS_I (m_MD_isIn _ _ _ M1) cal_MD_isIn ⟨Nat.le_of_ble_eq_true rfl, Nat.le_of_ble_eq_true rfl⟩ wd_1052 rfl rfl (Nat.le_of_ble_eq_true rfl) dX10_spoils_22 (fun r_2 => ?_)
  refine G_if_ne 35 dX10_spoils_25 (by decide) (fun _ => ?_) (fun _ => ?_)
  refine G_aload_n dX10_spoils_28 0 rfl ?_
  refine G_bipush (v := -2) dX10_spoils_29 rfl ?_
  refine G_callV_IM (m_MD_less _ M1) cal_MD_less ⟨Nat.le_of_ble_eq_true rfl, Nat.le_of_ble_eq_true rfl⟩ wd_1225 hclX10 (by decide) rfl [.int (-2)] rfl rfl rfl (Nat.le_of_ble_eq_true rfl) dX10_spoils_31 (fun r_3 M2 => ?_)
  exact G_ireturn rfl rfl dX10_spoils_34 rfl
  refine G_aload_n dX10_spoils_35 0 rfl ?_
  refine G_getI hclX10 (by decide) rfl 8 (by decide) rfl wd_904 dX10_spoils_36 ?_
  refine G_iconst (v := 1) dX10_spoils_39 rfl ?_
  refine G_icmp_ne 59 dX10_spoils_40 (by decide) (fun _ => ?_) (fun _ => ?_)
  refine G_iload_n dX10_spoils_43 2 rfl ?_
  refine G_if_ne 52 dX10_spoils_44 (by decide) (fun _ => ?_) (fun _ => ?_)
  refine G_bipush (v := -9) dX10_spoils_47 rfl ?_
  refine G_goto 58 dX10_spoils_49 (by decide) ?_
  exact G_ireturn rfl rfl dX10_spoils_58 rfl
  refine G_aload_n dX10_spoils_52 0 rfl ?_
  refine G_bipush (v := -3) dX10_spoils_53 rfl ?_
  refine G_callV_IM (m_MD_less _ M1) cal_MD_less ⟨Nat.le_of_ble_eq_true rfl, Nat.le_of_ble_eq_true rfl⟩ wd_1225 hclX10 (by decide) rfl [.int (-3)] rfl rfl rfl (Nat.le_of_ble_eq_true rfl) dX10_spoils_55 (fun r_4 M3 => ?_)
  exact G_ireturn rfl rfl dX10_spoils_58 rfl
  refine G_aload_n dX10_spoils_59 0 rfl ?_
  refine G_aload_n dX10_spoils_60 0 rfl ?_
  refine G_getI hclX10 (by decide) rfl 10 (by decide) rfl wd_906 dX10_spoils_61 ?_
  refine G_callV_V (m_MD_findTies _ M1) cal_MD_findTies ⟨Nat.le_of_ble_eq_true rfl, Nat.le_of_ble_eq_true rfl⟩ wd_1076 hclX10 (by decide) rfl [.int (M1 33 10)] rfl rfl rfl (Nat.le_of_ble_eq_true rfl) dX10_spoils_64 (fun M4 => ?_)
  refine G_aload_n dX10_spoils_67 0 rfl ?_
  refine G_callV_I (m_MD_wrongOf M4) cal_MD_wrongOf ⟨Nat.le_of_ble_eq_true rfl, Nat.le_of_ble_eq_true rfl⟩ wd_1208 hclX10 (by decide) rfl [] rfl rfl rfl (Nat.le_of_ble_eq_true rfl) dX10_spoils_68 (fun r_5 => ?_)
  refine G_istore_n 3 rfl dX10_spoils_71 (by decide) (L' := [(3, .int r_5), (0, .ref (ad 33)), (1, .int v1), (2, .int v2)]) rfl ?_
  refine G_bipush (v := -9) dX10_spoils_72 rfl ?_
  refine G_istore dX10_spoils_74 (by decide) (L' := [(4, .int (-9)), (3, .int r_5), (0, .ref (ad 33)), (1, .int v1), (2, .int v2)]) rfl ?_
  refine G_iconst (v := 0) dX10_spoils_76 rfl ?_
  refine G_istore dX10_spoils_77 (by decide) (L' := [(5, .int 0), (4, .int (-9)), (3, .int r_5), (0, .ref (ad 33)), (1, .int v1), (2, .int v2)]) rfl ?_
  refine G_iconst (v := 0) dX10_spoils_79 rfl ?_
  refine G_istore dX10_spoils_80 (by decide) (L' := [(6, .int 0), (5, .int 0), (4, .int (-9)), (3, .int r_5), (0, .ref (ad 33)), (1, .int v1), (2, .int v2)]) rfl ?_
  refine G_sub [4, 6, 3, 2, 1, 0] rfl ?_
  refine w_MD_spoils_L82 X ad v2 r_5 _ (fun v4_7 v5_6 M12 => ?_) _ _
  refine G_iload_n dX10_spoils_231 0 rfl ?_
  refine G_if_ne 240 dX10_spoils_232 (by decide) (fun _ => ?_) (fun _ => ?_)
  refine G_iload dX10_spoils_235 2 rfl ?_
  refine G_goto 244 dX10_spoils_237 (by decide) ?_
  exact G_ireturn rfl rfl dX10_spoils_244 rfl
  refine G_iload_n dX10_spoils_240 1 rfl ?_
  refine G_iload dX10_spoils_241 3 rfl ?_
  refine G_isub dX10_spoils_243 ?_
  exact G_ireturn rfl rfl dX10_spoils_244 rfl
  refine G_aload_n dX10_spoils_12 0 rfl ?_
  refine G_iconst (v := -1) dX10_spoils_13 rfl ?_
  refine G_callV_IM (m_MD_less _ M1) cal_MD_less ⟨Nat.le_of_ble_eq_true rfl, Nat.le_of_ble_eq_true rfl⟩ wd_1225 hclX10 (by decide) rfl [.int (-1)] rfl rfl rfl (Nat.le_of_ble_eq_true rfl) dX10_spoils_14 (fun r_7 M13 => ?_)
  exact G_ireturn rfl rfl dX10_spoils_17 rfl

set_option maxRecDepth 100000 in
set_option maxHeartbeats 4000000 in
theorem m_MD_newcomer (v1 : Int32) (v2 : Int32) (v3 : Int32) (M : Mem) : MC mi_MD_newcomer (φIM) (fun ad => [.ref (ad 33), .int v1, .int v2, .int v3]) M (MD_newcomer v1 v2 v3 M) := by
  refine MC_of rfl (by decide +kernel) (fun ad => [(0, .ref (ad 33)), (1, .int v1), (2, .int v2), (3, .int v3)]) (fun _ => rfl) (fun _ => Nat.le_of_ble_eq_true rfl) (fun X ad => ?_)
  show G X ad mi_MD_newcomer (φIM) 0 [(0, .ref (ad 33)), (1, .int v1), (2, .int v2), (3, .int v3)] [] M _
  unfold MD_newcomer
  refine G_iload_n dX10_newcomer_0 1 rfl ?_
  refine G_callS_I (m_MD_isKind _ M) cal_MD_isKind ⟨Nat.le_of_ble_eq_true rfl, Nat.le_of_ble_eq_true rfl⟩ wd_1073 rfl rfl (Nat.le_of_ble_eq_true rfl) dX10_newcomer_1 (fun r_1 => ?_)
  refine G_jp (fun kq => G X ad mi_MD_newcomer (φIM) 15 [(0, .ref (ad 33))] [] M (kq)) ?_ (fun k_1 hk_1 => ?_)
  refine G_aload_n dX10_newcomer_15 0 rfl ?_
  refine G_iconst (v := -1) dX10_newcomer_16 rfl ?_
  refine G_callV_IM (m_MD_no _ M) cal_MD_no ⟨Nat.le_of_ble_eq_true rfl, Nat.le_of_ble_eq_true rfl⟩ wd_1008 hclX10 (by decide) rfl [.int (-1)] rfl rfl rfl (Nat.le_of_ble_eq_true rfl) dX10_newcomer_17 (fun r_2 M1 => ?_)
  exact G_ireturn rfl rfl dX10_newcomer_20 rfl
  refine G_if_eq 15 dX10_newcomer_4 (by decide) (fun _ => ?_) (fun _ => ?_)
  refine G_sub [0] rfl ?_
  exact hk_1
  refine G_aload_n dX10_newcomer_7 0 rfl ?_
  refine G_iload_n dX10_newcomer_8 2 rfl ?_
  refine G_callV_I (m_MD_isPerson _ M) cal_MD_isPerson ⟨Nat.le_of_ble_eq_true rfl, Nat.le_of_ble_eq_true rfl⟩ wd_1016 hclX10 (by decide) rfl [.int v2] rfl rfl rfl (Nat.le_of_ble_eq_true rfl) dX10_newcomer_9 (fun r_3 => ?_)
  refine G_if_ne 21 dX10_newcomer_12 (by decide) (fun _ => ?_) (fun _ => ?_)
  refine G_sub [0] rfl ?_
  exact hk_1
  refine G_aload_n dX10_newcomer_21 0 rfl ?_
  refine G_getI hclX10 (by decide) rfl 33 (by decide) rfl wd_929 dX10_newcomer_22 ?_
  refine G_bipush (v := 6) dX10_newcomer_25 rfl ?_
  refine G_icmp_ne 37 dX10_newcomer_27 (by decide) (fun _ => ?_) (fun _ => ?_)
  refine G_aload_n dX10_newcomer_30 0 rfl ?_
  refine G_bipush (v := -6) dX10_newcomer_31 rfl ?_
  refine G_callV_IM (m_MD_no _ M) cal_MD_no ⟨Nat.le_of_ble_eq_true rfl, Nat.le_of_ble_eq_true rfl⟩ wd_1008 hclX10 (by decide) rfl [.int (-6)] rfl rfl rfl (Nat.le_of_ble_eq_true rfl) dX10_newcomer_33 (fun r_4 M2 => ?_)
  exact G_ireturn rfl rfl dX10_newcomer_36 rfl
  refine G_aload_n dX10_newcomer_37 0 rfl ?_
  refine G_getR hclX10 (by decide) rfl 30 (by decide) rfl wd_926 dX10_newcomer_38 ?_
  refine G_aload_n dX10_newcomer_41 0 rfl ?_
  refine G_getI hclX10 (by decide) rfl 33 (by decide) rfl wd_929 dX10_newcomer_42 ?_
  refine G_iload_n dX10_newcomer_45 1 rfl ?_
  refine G_iast (by decide) rfl dX10_newcomer_46 (fun M3 => ?_)
  refine G_aload_n dX10_newcomer_47 0 rfl ?_
  refine G_getR hclX10 (by decide) rfl 31 (by decide) rfl wd_927 dX10_newcomer_48 ?_
  refine G_aload_n dX10_newcomer_51 0 rfl ?_
  refine G_getI hclX10 (by decide) rfl 33 (by decide) rfl wd_929 dX10_newcomer_52 ?_
  refine G_iload_n dX10_newcomer_55 2 rfl ?_
  refine G_iast (by decide) rfl dX10_newcomer_56 (fun M4 => ?_)
  refine G_aload_n dX10_newcomer_57 0 rfl ?_
  refine G_getR hclX10 (by decide) rfl 32 (by decide) rfl wd_928 dX10_newcomer_58 ?_
  refine G_aload_n dX10_newcomer_61 0 rfl ?_
  refine G_getI hclX10 (by decide) rfl 33 (by decide) rfl wd_929 dX10_newcomer_62 ?_
  refine G_iload_n dX10_newcomer_65 3 rfl ?_
  refine G_zast (by decide) rfl dX10_newcomer_66 (fun M5 => ?_)
  refine G_aload_n dX10_newcomer_67 0 rfl ?_
  refine G_dup dX10_newcomer_68 rfl ?_
  refine G_getI hclX10 (by decide) rfl 33 (by decide) rfl wd_929 dX10_newcomer_69 ?_
  refine G_iconst (v := 1) dX10_newcomer_72 rfl ?_
  refine G_iadd dX10_newcomer_73 ?_
  refine G_put hclX10 (by decide) rfl 33 (by decide) rfl rfl (by decide +kernel) wd_929 dX10_newcomer_74 (fun M6 => ?_)
  refine G_aload_n dX10_newcomer_77 0 rfl ?_
  refine G_getI hclX10 (by decide) rfl 33 (by decide) rfl wd_929 dX10_newcomer_78 ?_
  exact G_ireturn rfl rfl dX10_newcomer_81 rfl

set_option maxRecDepth 100000 in
set_option maxHeartbeats 4000000 in
theorem w_MD_isFit_L13 (X : Cx) (ad : Nat → Nat) (v1_2 : Int32) (v2_2 : Int32) (v3_2 : Int32) (M : Mem) (kx : Option Int32) (hkx : G X ad mi_MD_isFit (φI M) 111 [(0, .ref (ad 33)), (1, .int v1_2), (2, .int v2_2), (3, .int v3_2)] [] M (kx)) : ∀ (n : Nat) (s : Int32), G X ad mi_MD_isFit (φI M) 13 [(0, .ref (ad 33)), (1, .int v1_2), (2, .int v2_2), (3, .int v3_2), (4, .int s)] [] M (LOOP (fun aq sq => MD_isFit_L13 v1_2 v2_2 v3_2 M kx aq sq) n s) := by
  refine LOOP_rule (fun (s : Int32) o => G X ad mi_MD_isFit (φI M) 13 [(0, .ref (ad 33)), (1, .int v1_2), (2, .int v2_2), (3, .int v3_2), (4, .int s)] [] M o) (fun _ => G_none) (fun ag hag v4_1 => ?_)
  show G X ad mi_MD_isFit (φI M) 13 [(0, .ref (ad 33)), (1, .int v1_2), (2, .int v2_2), (3, .int v3_2), (4, .int v4_1)] [] M (MD_isFit_L13 v1_2 v2_2 v3_2 M kx ag v4_1)
  unfold MD_isFit_L13
  refine G_iload dX10_isFit_13 4 rfl ?_
  refine G_aload_n dX10_isFit_15 0 rfl ?_
  refine G_getI hclX10 (by decide) rfl 8 (by decide) rfl wd_904 dX10_isFit_16 ?_
  refine G_icmp_ge 111 dX10_isFit_19 (by decide) (fun _ => ?_) (fun _ => ?_)
  refine G_sub [0, 1, 2, 3] rfl ?_
  exact hkx
  refine G_aload_n dX10_isFit_22 0 rfl ?_
  refine G_getR hclX10 (by decide) rfl 22 (by decide) rfl wd_918 dX10_isFit_23 ?_
  refine G_iload_n dX10_isFit_26 3 rfl ?_
  refine G_iald (by decide) rfl dX10_isFit_27 ?_
  refine G_iload_n dX10_isFit_28 1 rfl ?_
  refine G_icmp_ne 111 dX10_isFit_29 (by decide) (fun _ => ?_) (fun _ => ?_)
  refine G_iload dX10_isFit_32 4 rfl ?_
  refine G_iload_n dX10_isFit_34 3 rfl ?_
  refine G_icmp_eq 105 dX10_isFit_35 (by decide) (fun _ => ?_) (fun _ => ?_)
  refine G_iinc (v4_1 + 1) dX10_isFit_105 4 rfl rfl (by decide) (L' := [(4, .int (v4_1 + 1)), (0, .ref (ad 33)), (1, .int v1_2), (2, .int v2_2), (3, .int v3_2)]) rfl ?_
  refine G_goto 13 dX10_isFit_108 (by decide) ?_
  refine G_sub [1, 2, 3, 4, 0] rfl ?_
  exact hag (v4_1 + 1)
  refine G_aload_n dX10_isFit_38 0 rfl ?_
  refine G_getR hclX10 (by decide) rfl 22 (by decide) rfl wd_918 dX10_isFit_39 ?_
  refine G_iload dX10_isFit_42 4 rfl ?_
  refine G_iald (by decide) rfl dX10_isFit_44 ?_
  refine G_aload_n dX10_isFit_45 0 rfl ?_
  refine G_getR hclX10 (by decide) rfl 22 (by decide) rfl wd_918 dX10_isFit_46 ?_
  refine G_aload_n dX10_isFit_49 0 rfl ?_
  refine G_getR hclX10 (by decide) rfl 31 (by decide) rfl wd_927 dX10_isFit_50 ?_
  refine G_iload_n dX10_isFit_53 2 rfl ?_
  refine G_iald (by decide) rfl dX10_isFit_54 ?_
  refine G_iald (by decide) rfl dX10_isFit_55 ?_
  refine G_icmp_ne 105 dX10_isFit_56 (by decide) (fun _ => ?_) (fun _ => ?_)
  refine G_aload_n dX10_isFit_59 0 rfl ?_
  refine G_getR hclX10 (by decide) rfl 32 (by decide) rfl wd_928 dX10_isFit_60 ?_
  refine G_iload_n dX10_isFit_63 2 rfl ?_
  refine G_zald (by decide) rfl dX10_isFit_64 ?_
  refine G_if_eq 87 dX10_isFit_65 (by decide) (fun _ => ?_) (fun _ => ?_)
  refine G_aload_n dX10_isFit_87 0 rfl ?_
  refine G_aload_n dX10_isFit_88 0 rfl ?_
  refine G_getR hclX10 (by decide) rfl 30 (by decide) rfl wd_926 dX10_isFit_89 ?_
  refine G_iload_n dX10_isFit_92 2 rfl ?_
  refine G_iald (by decide) rfl dX10_isFit_93 ?_
  refine G_iload dX10_isFit_94 4 rfl ?_
  refine G_iload_n dX10_isFit_96 3 rfl ?_
  refine G_callV_I (m_MD_has _ _ _ M) cal_MD_has ⟨Nat.le_of_ble_eq_true rfl, Nat.le_of_ble_eq_true rfl⟩ wd_1088 hclX10 (by decide) rfl [.int (rd M 58 v2_2), .int v4_1, .int v3_2] rfl rfl rfl (Nat.le_of_ble_eq_true rfl) dX10_isFit_97 (fun r_1 => ?_)
  refine G_if_eq 105 dX10_isFit_100 (by decide) (fun _ => ?_) (fun _ => ?_)
  refine G_iinc (v4_1 + 1) dX10_isFit_105 4 rfl rfl (by decide) (L' := [(4, .int (v4_1 + 1)), (0, .ref (ad 33)), (1, .int v1_2), (2, .int v2_2), (3, .int v3_2)]) rfl ?_
  refine G_goto 13 dX10_isFit_108 (by decide) ?_
  refine G_sub [1, 2, 3, 4, 0] rfl ?_
  exact hag (v4_1 + 1)
  refine G_iconst (v := 1) dX10_isFit_103 rfl ?_
  exact G_zreturn rfl rfl dX10_isFit_104 rfl
  refine G_aload_n dX10_isFit_68 0 rfl ?_
  refine G_aload_n dX10_isFit_69 0 rfl ?_
  refine G_getR hclX10 (by decide) rfl 30 (by decide) rfl wd_926 dX10_isFit_70 ?_
  refine G_iload_n dX10_isFit_73 2 rfl ?_
  refine G_iald (by decide) rfl dX10_isFit_74 ?_
  refine G_iload_n dX10_isFit_75 3 rfl ?_
  refine G_iload dX10_isFit_76 4 rfl ?_
  refine G_callV_I (m_MD_has _ _ _ M) cal_MD_has ⟨Nat.le_of_ble_eq_true rfl, Nat.le_of_ble_eq_true rfl⟩ wd_1088 hclX10 (by decide) rfl [.int (rd M 58 v2_2), .int v3_2, .int v4_1] rfl rfl rfl (Nat.le_of_ble_eq_true rfl) dX10_isFit_78 (fun r_2 => ?_)
  refine G_if_eq 105 dX10_isFit_81 (by decide) (fun _ => ?_) (fun _ => ?_)
  refine G_iinc (v4_1 + 1) dX10_isFit_105 4 rfl rfl (by decide) (L' := [(4, .int (v4_1 + 1)), (0, .ref (ad 33)), (1, .int v1_2), (2, .int v2_2), (3, .int v3_2)]) rfl ?_
  refine G_goto 13 dX10_isFit_108 (by decide) ?_
  refine G_sub [1, 2, 3, 4, 0] rfl ?_
  exact hag (v4_1 + 1)
  refine G_goto 103 dX10_isFit_84 (by decide) ?_
  refine G_iconst (v := 1) dX10_isFit_103 rfl ?_
  exact G_zreturn rfl rfl dX10_isFit_104 rfl
  refine G_iinc (v4_1 + 1) dX10_isFit_105 4 rfl rfl (by decide) (L' := [(4, .int (v4_1 + 1)), (0, .ref (ad 33)), (1, .int v1_2), (2, .int v2_2), (3, .int v3_2)]) rfl ?_
  refine G_goto 13 dX10_isFit_108 (by decide) ?_
  refine G_sub [1, 2, 3, 4, 0] rfl ?_
  exact hag (v4_1 + 1)
  refine G_sub [0, 1, 2, 3] rfl ?_
  exact hkx

set_option maxRecDepth 100000 in
set_option maxHeartbeats 4000000 in
theorem w_MD_isFit_L2 (X : Cx) (ad : Nat → Nat) (v1_1 : Int32) (v2_1 : Int32) (M : Mem) (kx : Option Int32) (hkx : G X ad mi_MD_isFit (φI M) 117 [] [] M (kx)) : ∀ (n : Nat) (s : Int32), G X ad mi_MD_isFit (φI M) 2 [(0, .ref (ad 33)), (1, .int v1_1), (2, .int v2_1), (3, .int s)] [] M (LOOP (fun aq sq => MD_isFit_L2 v1_1 v2_1 M kx aq sq) n s) := by
  refine LOOP_rule (fun (s : Int32) o => G X ad mi_MD_isFit (φI M) 2 [(0, .ref (ad 33)), (1, .int v1_1), (2, .int v2_1), (3, .int s)] [] M o) (fun _ => G_none) (fun ag hag v3_1 => ?_)
  show G X ad mi_MD_isFit (φI M) 2 [(0, .ref (ad 33)), (1, .int v1_1), (2, .int v2_1), (3, .int v3_1)] [] M (MD_isFit_L2 v1_1 v2_1 M kx ag v3_1)
  unfold MD_isFit_L2
  refine G_iload_n dX10_isFit_2 3 rfl ?_
  refine G_aload_n dX10_isFit_3 0 rfl ?_
  refine G_getI hclX10 (by decide) rfl 8 (by decide) rfl wd_904 dX10_isFit_4 ?_
  refine G_icmp_ge 117 dX10_isFit_7 (by decide) (fun _ => ?_) (fun _ => ?_)
  refine G_sub [] rfl ?_
  exact hkx
  refine G_iconst (v := 0) dX10_isFit_10 rfl ?_
  refine G_istore dX10_isFit_11 (by decide) (L' := [(4, .int 0), (0, .ref (ad 33)), (1, .int v1_1), (2, .int v2_1), (3, .int v3_1)]) rfl ?_
  refine G_sub [1, 2, 3, 4, 0] rfl ?_
  refine w_MD_isFit_L13 X ad v1_1 v2_1 v3_1 M _ ?_ _ _
  refine G_iinc (v3_1 + 1) dX10_isFit_111 3 rfl rfl (by decide) (L' := [(3, .int (v3_1 + 1)), (0, .ref (ad 33)), (1, .int v1_1), (2, .int v2_1)]) rfl ?_
  refine G_goto 2 dX10_isFit_114 (by decide) ?_
  refine G_sub [1, 2, 3, 0] rfl ?_
  exact hag (v3_1 + 1)

set_option maxRecDepth 100000 in
set_option maxHeartbeats 4000000 in
theorem m_MD_isFit (v1 : Int32) (v2 : Int32) (M : Mem) : MC mi_MD_isFit (φI M) (fun ad => [.ref (ad 33), .int v1, .int v2]) M (MD_isFit v1 v2 M) := by
  refine MC_of rfl (by decide +kernel) (fun ad => [(0, .ref (ad 33)), (1, .int v1), (2, .int v2)]) (fun _ => rfl) (fun _ => Nat.le_of_ble_eq_true rfl) (fun X ad => ?_)
  show G X ad mi_MD_isFit (φI M) 0 [(0, .ref (ad 33)), (1, .int v1), (2, .int v2)] [] M _
  unfold MD_isFit
  refine G_iconst (v := 0) dX10_isFit_0 rfl ?_
  refine G_istore_n 3 rfl dX10_isFit_1 (by decide) (L' := [(3, .int 0), (0, .ref (ad 33)), (1, .int v1), (2, .int v2)]) rfl ?_
  refine G_sub [1, 2, 3, 0] rfl ?_
  refine w_MD_isFit_L2 X ad v1 v2 M _ ?_ _ _
  refine G_iconst (v := 0) dX10_isFit_117 rfl ?_
  exact G_zreturn rfl rfl dX10_isFit_118 rfl

set_option maxRecDepth 100000 in
set_option maxHeartbeats 4000000 in
theorem w_MD_fits_L45 (X : Cx) (ad : Nat → Nat) (v2_2 : Int32) (v3_2 : Int32) (v4_2 : Int32) (M2 : Mem) (kx : Int32 → Option (Int32 × Mem)) (hkx : ∀ (e5 : Int32), G X ad mi_MD_fits (φIM) 83 [(0, .ref (ad 33)), (2, .int v2_2), (3, .int v3_2), (4, .int v4_2), (5, .int e5)] [] M2 (kx e5)) : ∀ (n : Nat) (s : Int32 × Int32), G X ad mi_MD_fits (φIM) 45 [(0, .ref (ad 33)), (2, .int v2_2), (3, .int v3_2), (4, .int v4_2), (5, .int s.1), (6, .int s.2)] [] M2 (LOOP (fun aq sq => MD_fits_L45 v4_2 M2 kx aq sq.1 sq.2) n s) := by
  refine LOOP_rule (fun (s : Int32 × Int32) o => G X ad mi_MD_fits (φIM) 45 [(0, .ref (ad 33)), (2, .int v2_2), (3, .int v3_2), (4, .int v4_2), (5, .int s.1), (6, .int s.2)] [] M2 o) (fun _ => G_none) (fun ag hag s => ?_)
  obtain ⟨v5_1, v6_1⟩ := s
  show G X ad mi_MD_fits (φIM) 45 [(0, .ref (ad 33)), (2, .int v2_2), (3, .int v3_2), (4, .int v4_2), (5, .int v5_1), (6, .int v6_1)] [] M2 (MD_fits_L45 v4_2 M2 kx ag v5_1 v6_1)
  unfold MD_fits_L45
  refine G_iload dX10_fits_45 5 rfl ?_
  refine G_aload_n dX10_fits_47 0 rfl ?_
  refine G_getI hclX10 (by decide) rfl 33 (by decide) rfl wd_929 dX10_fits_48 ?_
  refine G_icmp_ge 83 dX10_fits_51 (by decide) (fun _ => ?_) (fun _ => ?_)
  refine G_sub [0, 1, 2, 3, 4] rfl ?_
  exact hkx v5_1
  refine G_iload dX10_fits_54 4 rfl ?_
  refine G_if_eq 74 dX10_fits_56 (by decide) (fun _ => ?_) (fun _ => ?_)
  refine G_iconst (v := 0) dX10_fits_74 rfl ?_
  refine G_istore dX10_fits_75 (by decide) (L' := [(5, .int 0), (0, .ref (ad 33)), (2, .int v2_2), (3, .int v3_2), (4, .int v4_2), (6, .int v6_1)]) rfl ?_
  refine G_iinc (v6_1 + 1) dX10_fits_77 5 rfl rfl (by decide) (L' := [(6, .int (v6_1 + 1)), (5, .int 0), (0, .ref (ad 33)), (2, .int v2_2), (3, .int v3_2), (4, .int v4_2)]) rfl ?_
  refine G_goto 45 dX10_fits_80 (by decide) ?_
  refine G_sub [2, 3, 4, 5, 1, 0] rfl ?_
  exact hag (0, v6_1 + 1)
  refine G_aload_n dX10_fits_59 0 rfl ?_
  refine G_iload dX10_fits_60 3 rfl ?_
  refine G_iload dX10_fits_62 5 rfl ?_
  refine G_callV_I (m_MD_isFit _ _ M2) cal_MD_isFit ⟨Nat.le_of_ble_eq_true rfl, Nat.le_of_ble_eq_true rfl⟩ wd_1238 hclX10 (by decide) rfl [.int v4_2, .int v6_1] rfl rfl rfl (Nat.le_of_ble_eq_true rfl) dX10_fits_64 (fun r_2 => ?_)
  refine G_if_eq 74 dX10_fits_67 (by decide) (fun _ => ?_) (fun _ => ?_)
  refine G_iconst (v := 0) dX10_fits_74 rfl ?_
  refine G_istore dX10_fits_75 (by decide) (L' := [(5, .int 0), (0, .ref (ad 33)), (2, .int v2_2), (3, .int v3_2), (4, .int v4_2), (6, .int v6_1)]) rfl ?_
  refine G_iinc (v6_1 + 1) dX10_fits_77 5 rfl rfl (by decide) (L' := [(6, .int (v6_1 + 1)), (5, .int 0), (0, .ref (ad 33)), (2, .int v2_2), (3, .int v3_2), (4, .int v4_2)]) rfl ?_
  refine G_goto 45 dX10_fits_80 (by decide) ?_
  refine G_sub [2, 3, 4, 5, 1, 0] rfl ?_
  exact hag (0, v6_1 + 1)
  refine G_iconst (v := 1) dX10_fits_70 rfl ?_
  refine G_goto 75 dX10_fits_71 (by decide) ?_
  refine G_istore dX10_fits_75 (by decide) (L' := [(5, .int 1), (0, .ref (ad 33)), (2, .int v2_2), (3, .int v3_2), (4, .int v4_2), (6, .int v6_1)]) rfl ?_
  refine G_iinc (v6_1 + 1) dX10_fits_77 5 rfl rfl (by decide) (L' := [(6, .int (v6_1 + 1)), (5, .int 1), (0, .ref (ad 33)), (2, .int v2_2), (3, .int v3_2), (4, .int v4_2)]) rfl ?_
  refine G_goto 45 dX10_fits_80 (by decide) ?_
  refine G_sub [2, 3, 4, 5, 1, 0] rfl ?_
  exact hag (1, v6_1 + 1)

set_option maxRecDepth 100000 in
set_option maxHeartbeats 4000000 in
theorem w_MD_fits_L33 (X : Cx) (ad : Nat → Nat) (v2_1 : Int32) (M2 : Mem) (kx : Int32 → Option (Int32 × Mem)) (hkx : ∀ (e3 : Int32), G X ad mi_MD_fits (φIM) 105 [(3, .int e3)] [] M2 (kx e3)) : ∀ (n : Nat) (s : Int32 × Int32), G X ad mi_MD_fits (φIM) 33 [(0, .ref (ad 33)), (2, .int v2_1), (3, .int s.1), (4, .int s.2)] [] M2 (LOOP (fun aq sq => MD_fits_L33 v2_1 M2 kx aq sq.1 sq.2) n s) := by
  refine LOOP_rule (fun (s : Int32 × Int32) o => G X ad mi_MD_fits (φIM) 33 [(0, .ref (ad 33)), (2, .int v2_1), (3, .int s.1), (4, .int s.2)] [] M2 o) (fun _ => G_none) (fun ag hag s => ?_)
  obtain ⟨v3_1, v4_1⟩ := s
  show G X ad mi_MD_fits (φIM) 33 [(0, .ref (ad 33)), (2, .int v2_1), (3, .int v3_1), (4, .int v4_1)] [] M2 (MD_fits_L33 v2_1 M2 kx ag v3_1 v4_1)
  unfold MD_fits_L33
  refine G_iload dX10_fits_33 3 rfl ?_
  refine G_iload_n dX10_fits_35 1 rfl ?_
  refine G_icmp_ge 105 dX10_fits_36 (by decide) (fun _ => ?_) (fun _ => ?_)
  refine G_sub [2] rfl ?_
  exact hkx v3_1
  refine G_iconst (v := 1) dX10_fits_39 rfl ?_
  refine G_istore dX10_fits_40 (by decide) (L' := [(5, .int 1), (0, .ref (ad 33)), (2, .int v2_1), (3, .int v3_1), (4, .int v4_1)]) rfl ?_
  refine G_iconst (v := 0) dX10_fits_42 rfl ?_
  refine G_istore dX10_fits_43 (by decide) (L' := [(6, .int 0), (5, .int 1), (0, .ref (ad 33)), (2, .int v2_1), (3, .int v3_1), (4, .int v4_1)]) rfl ?_
  refine G_sub [2, 3, 4, 5, 1, 0] rfl ?_
  refine w_MD_fits_L45 X ad v2_1 v3_1 v4_1 M2 _ (fun v5_2 => ?_) _ _
  refine G_iload_n dX10_fits_83 2 rfl ?_
  refine G_iload dX10_fits_84 4 rfl ?_
  refine G_if_eq 96 dX10_fits_86 (by decide) (fun _ => ?_) (fun _ => ?_)
  refine G_iconst (v := 0) dX10_fits_96 rfl ?_
  refine G_ior dX10_fits_97 ?_
  refine G_nmI (fun v3_3 => ?_)
  refine G_istore_n 3 rfl dX10_fits_98 (by decide) (L' := [(3, .int v3_3), (0, .ref (ad 33)), (2, .int v2_1), (4, .int v4_1), (5, .int v5_2)]) rfl ?_
  refine G_iinc (v4_1 + 1) dX10_fits_99 3 rfl rfl (by decide) (L' := [(4, .int (v4_1 + 1)), (3, .int v3_3), (0, .ref (ad 33)), (2, .int v2_1), (5, .int v5_2)]) rfl ?_
  refine G_goto 33 dX10_fits_102 (by decide) ?_
  refine G_sub [2, 3, 1, 0] rfl ?_
  exact hag (v3_3, v4_1 + 1)
  refine G_iconst (v := 1) dX10_fits_89 rfl ?_
  refine G_iload dX10_fits_90 3 rfl ?_
  refine G_ishl dX10_fits_92 ?_
  refine G_goto 97 dX10_fits_93 (by decide) ?_
  refine G_ior dX10_fits_97 ?_
  refine G_nmI (fun v3_4 => ?_)
  refine G_istore_n 3 rfl dX10_fits_98 (by decide) (L' := [(3, .int v3_4), (0, .ref (ad 33)), (2, .int v2_1), (4, .int v4_1), (5, .int v5_2)]) rfl ?_
  refine G_iinc (v4_1 + 1) dX10_fits_99 3 rfl rfl (by decide) (L' := [(4, .int (v4_1 + 1)), (3, .int v3_4), (0, .ref (ad 33)), (2, .int v2_1), (5, .int v5_2)]) rfl ?_
  refine G_goto 33 dX10_fits_102 (by decide) ?_
  refine G_sub [2, 3, 1, 0] rfl ?_
  exact hag (v3_4, v4_1 + 1)

set_option maxRecDepth 100000 in
set_option maxHeartbeats 4000000 in
theorem m_MD_fits (v1 : Int32) (M : Mem) : MC mi_MD_fits (φIM) (fun ad => [.ref (ad 33), .int v1]) M (MD_fits v1 M) := by
  refine MC_of rfl (by decide +kernel) (fun ad => [(0, .ref (ad 33)), (1, .int v1)]) (fun _ => rfl) (fun _ => Nat.le_of_ble_eq_true rfl) (fun X ad => ?_)
  show G X ad mi_MD_fits (φIM) 0 [(0, .ref (ad 33)), (1, .int v1)] [] M _
  unfold MD_fits
  refine G_aload_n dX10_fits_0 0 rfl ?_
  refine G_iload_n dX10_fits_1 1 rfl ?_
  refine G_aload_n dX10_fits_2 0 rfl ?_
  refine G_getR hclX10 (by decide) rfl 22 (by decide) rfl wd_918 dX10_fits_3 ?_
  refine G_callV_IM (m_MD_opens _ 50 isA_50 M) cal_MD_opens ⟨Nat.le_of_ble_eq_true rfl, Nat.le_of_ble_eq_true rfl⟩ wd_1096 hclX10 (by decide) rfl [.int v1, .ref (ad 50)] rfl rfl rfl (Nat.le_of_ble_eq_true rfl) dX10_fits_6 (fun r_1 M1 => ?_)
  refine G_istore_n 2 rfl dX10_fits_9 (by decide) (L' := [(2, .int r_1), (0, .ref (ad 33)), (1, .int v1)]) rfl ?_
  refine G_iload_n dX10_fits_10 0 rfl ?_
  refine G_if_ge 20 dX10_fits_11 (by decide) (fun _ => ?_) (fun _ => ?_)
  refine G_aload_n dX10_fits_20 1 rfl ?_
  refine G_aload_n dX10_fits_21 1 rfl ?_
  refine G_getI hclX10 (by decide) rfl 10 (by decide) rfl wd_906 dX10_fits_22 ?_
  refine G_callV_V (m_MD_findTies _ M1) cal_MD_findTies ⟨Nat.le_of_ble_eq_true rfl, Nat.le_of_ble_eq_true rfl⟩ wd_1076 hclX10 (by decide) rfl [.int (M1 33 10)] rfl rfl rfl (Nat.le_of_ble_eq_true rfl) dX10_fits_25 (fun M2 => ?_)
  refine G_iconst (v := 0) dX10_fits_28 rfl ?_
  refine G_istore_n 3 rfl dX10_fits_29 (by decide) (L' := [(3, .int 0), (2, .int r_1), (0, .ref (ad 33)), (1, .int v1)]) rfl ?_
  refine G_iconst (v := 0) dX10_fits_30 rfl ?_
  refine G_istore dX10_fits_31 (by decide) (L' := [(4, .int 0), (3, .int 0), (2, .int r_1), (0, .ref (ad 33)), (1, .int v1)]) rfl ?_
  refine G_sub [3, 2, 1, 0] rfl ?_
  refine w_MD_fits_L33 X ad r_1 M2 _ (fun v3_5 => ?_) _ _
  refine G_iload_n dX10_fits_105 0 rfl ?_
  exact G_ireturn rfl rfl dX10_fits_106 rfl
  refine G_aload_n dX10_fits_14 1 rfl ?_
  refine G_iconst (v := -1) dX10_fits_15 rfl ?_
  refine G_callV_IM (m_MD_no _ M1) cal_MD_no ⟨Nat.le_of_ble_eq_true rfl, Nat.le_of_ble_eq_true rfl⟩ wd_1008 hclX10 (by decide) rfl [.int (-1)] rfl rfl rfl (Nat.le_of_ble_eq_true rfl) dX10_fits_16 (fun r_3 M3 => ?_)
  exact G_ireturn rfl rfl dX10_fits_19 rfl

set_option maxRecDepth 100000 in
set_option maxHeartbeats 4000000 in
theorem m_MD_gone (M : Mem) : MC mi_MD_gone (φIM) (fun ad => [.ref (ad 33)]) M (MD_gone M) := by
  refine MC_of rfl (by decide +kernel) (fun ad => [(0, .ref (ad 33))]) (fun _ => rfl) (fun _ => Nat.le_of_ble_eq_true rfl) (fun X ad => ?_)
  show G X ad mi_MD_gone (φIM) 0 [(0, .ref (ad 33))] [] M _
  unfold MD_gone
  refine G_aload_n dX10_gone_0 0 rfl ?_
  refine G_getI hclX10 (by decide) rfl 33 (by decide) rfl wd_929 dX10_gone_1 ?_
  refine G_nmI (fun v1_1 => ?_)
  refine G_istore_n 1 rfl dX10_gone_4 (by decide) (L' := [(1, .int v1_1), (0, .ref (ad 33))]) rfl ?_
  refine G_aload_n dX10_gone_5 1 rfl ?_
  refine G_iconst (v := 0) dX10_gone_6 rfl ?_
  refine G_put hclX10 (by decide) rfl 33 (by decide) rfl rfl (by decide +kernel) wd_929 dX10_gone_7 (fun M1 => ?_)
  refine G_iload_n dX10_gone_10 0 rfl ?_
  exact G_ireturn rfl rfl dX10_gone_11 rfl

set_option maxRecDepth 100000 in
set_option maxHeartbeats 4000000 in
theorem m_MD_coarsestOn (v1 : Int32) (v2 : Int32) (M : Mem) : MC mi_MD_coarsestOn (φIM) (fun ad => [.ref (ad 33), .int v1, .int v2]) M (MD_coarsestOn v1 v2 M) := by
  refine MC_of rfl (by decide +kernel) (fun ad => [(0, .ref (ad 33)), (1, .int v1), (2, .int v2)]) (fun _ => rfl) (fun _ => Nat.le_of_ble_eq_true rfl) (fun X ad => ?_)
  show G X ad mi_MD_coarsestOn (φIM) 0 [(0, .ref (ad 33)), (1, .int v1), (2, .int v2)] [] M _
  unfold MD_coarsestOn
  refine G_aload_n dX10_coarsestOn_0 0 rfl ?_
  refine G_iload_n dX10_coarsestOn_1 1 rfl ?_
  refine G_callV_V (m_MD_findTies _ M) cal_MD_findTies ⟨Nat.le_of_ble_eq_true rfl, Nat.le_of_ble_eq_true rfl⟩ wd_1076 hclX10 (by decide) rfl [.int v1] rfl rfl rfl (Nat.le_of_ble_eq_true rfl) dX10_coarsestOn_2 (fun M1 => ?_)
  refine G_aload_n dX10_coarsestOn_5 0 rfl ?_
  refine G_callV_V (m_MD_firstParting M1) cal_MD_firstParting ⟨Nat.le_of_ble_eq_true rfl, Nat.le_of_ble_eq_true rfl⟩ wd_1180 hclX10 (by decide) rfl [] rfl rfl rfl (Nat.le_of_ble_eq_true rfl) dX10_coarsestOn_6 (fun M2 => ?_)
  refine G_aload_n dX10_coarsestOn_9 0 rfl ?_
  refine G_iload_n dX10_coarsestOn_10 2 rfl ?_
  refine G_callV_IM (m_MD_splits _ M2) cal_MD_splits ⟨Nat.le_of_ble_eq_true rfl, Nat.le_of_ble_eq_true rfl⟩ wd_1134 hclX10 (by decide) rfl [.int v2] rfl rfl rfl (Nat.le_of_ble_eq_true rfl) dX10_coarsestOn_11 (fun r_1 M3 => ?_)
  exact G_ireturn rfl rfl dX10_coarsestOn_14 rfl

set_option maxRecDepth 100000 in
set_option maxHeartbeats 4000000 in
theorem w_MD_shift_L117 (X : Cx) (ad : Nat → Nat) (v7_2 : Int32) (M7 : Mem) (kx : Int32 → Option (Int32 × Mem)) (hkx : ∀ (e9 : Int32), G X ad mi_MD_shift (φIM) 164 [(0, .ref (ad 33)), (7, .int v7_2), (9, .int e9)] [] M7 (kx e9)) : ∀ (n : Nat) (s : Int32 × Int32), G X ad mi_MD_shift (φIM) 117 [(0, .ref (ad 33)), (7, .int v7_2), (9, .int s.1), (10, .int s.2)] [] M7 (LOOP (fun aq sq => MD_shift_L117 M7 kx aq sq.1 sq.2) n s) := by
  refine LOOP_rule (fun (s : Int32 × Int32) o => G X ad mi_MD_shift (φIM) 117 [(0, .ref (ad 33)), (7, .int v7_2), (9, .int s.1), (10, .int s.2)] [] M7 o) (fun _ => G_none) (fun ag hag s => ?_)
  obtain ⟨v9_1, v10_1⟩ := s
  show G X ad mi_MD_shift (φIM) 117 [(0, .ref (ad 33)), (7, .int v7_2), (9, .int v9_1), (10, .int v10_1)] [] M7 (MD_shift_L117 M7 kx ag v9_1 v10_1)
  unfold MD_shift_L117
  refine G_iload dX10_shift_117 3 rfl ?_
  refine G_aload_n dX10_shift_119 0 rfl ?_
  refine G_getI hclX10 (by decide) rfl 8 (by decide) rfl wd_904 dX10_shift_120 ?_
  refine G_icmp_ge 164 dX10_shift_123 (by decide) (fun _ => ?_) (fun _ => ?_)
  refine G_sub [0, 1, 2] rfl ?_
  exact hkx v9_1
  refine G_iload dX10_shift_126 2 rfl ?_
  refine G_aload_n dX10_shift_128 0 rfl ?_
  refine G_getR hclX10 (by decide) rfl 26 (by decide) rfl wd_922 dX10_shift_129 ?_
  refine G_aload_n dX10_shift_132 0 rfl ?_
  refine G_getR hclX10 (by decide) rfl 22 (by decide) rfl wd_918 dX10_shift_133 ?_
  refine G_iload dX10_shift_136 3 rfl ?_
  refine G_iald (by decide) rfl dX10_shift_138 ?_
  refine G_iald (by decide) rfl dX10_shift_139 ?_
  refine G_aload_n dX10_shift_140 0 rfl ?_
  refine G_getR hclX10 (by decide) rfl 23 (by decide) rfl wd_919 dX10_shift_141 ?_
  refine G_iload dX10_shift_144 3 rfl ?_
  refine G_iald (by decide) rfl dX10_shift_146 ?_
  refine G_icmp_ne 154 dX10_shift_147 (by decide) (fun _ => ?_) (fun _ => ?_)
  refine G_iconst (v := 1) dX10_shift_150 rfl ?_
  refine G_goto 155 dX10_shift_151 (by decide) ?_
  refine G_iadd dX10_shift_155 ?_
  refine G_nmI (fun v9_2 => ?_)
  refine G_istore dX10_shift_156 (by decide) (L' := [(9, .int v9_2), (0, .ref (ad 33)), (7, .int v7_2), (10, .int v10_1)]) rfl ?_
  refine G_iinc (v10_1 + 1) dX10_shift_158 3 rfl rfl (by decide) (L' := [(10, .int (v10_1 + 1)), (9, .int v9_2), (0, .ref (ad 33)), (7, .int v7_2)]) rfl ?_
  refine G_goto 117 dX10_shift_161 (by decide) ?_
  refine G_sub [2, 3, 1, 0] rfl ?_
  exact hag (v9_2, v10_1 + 1)
  refine G_iconst (v := 0) dX10_shift_154 rfl ?_
  refine G_iadd dX10_shift_155 ?_
  refine G_nmI (fun v9_3 => ?_)
  refine G_istore dX10_shift_156 (by decide) (L' := [(9, .int v9_3), (0, .ref (ad 33)), (7, .int v7_2), (10, .int v10_1)]) rfl ?_
  refine G_iinc (v10_1 + 1) dX10_shift_158 3 rfl rfl (by decide) (L' := [(10, .int (v10_1 + 1)), (9, .int v9_3), (0, .ref (ad 33)), (7, .int v7_2)]) rfl ?_
  refine G_goto 117 dX10_shift_161 (by decide) ?_
  refine G_sub [2, 3, 1, 0] rfl ?_
  exact hag (v9_3, v10_1 + 1)

set_option maxRecDepth 100000 in
set_option maxHeartbeats 4000000 in
theorem w_MD_shift_L106 (X : Cx) (ad : Nat → Nat) (kx : Int32 → Mem → Option (Int32 × Mem)) (hkx : ∀ (e7 : Int32) (Me : Mem), G X ad mi_MD_shift (φIM) 193 [(0, .ref (ad 33)), (7, .int e7)] [] Me (kx e7 Me)) : ∀ (n : Nat) (s : Int32 × Int32 × Mem), G X ad mi_MD_shift (φIM) 106 [(0, .ref (ad 33)), (7, .int s.1), (8, .int s.2.1)] [] s.2.2 (LOOP (fun aq sq => MD_shift_L106 kx aq sq.1 sq.2.1 sq.2.2) n s) := by
  refine LOOP_rule (fun (s : Int32 × Int32 × Mem) o => G X ad mi_MD_shift (φIM) 106 [(0, .ref (ad 33)), (7, .int s.1), (8, .int s.2.1)] [] s.2.2 o) (fun _ => G_none) (fun ag hag s => ?_)
  obtain ⟨v7_1, v8_1, M7⟩ := s
  show G X ad mi_MD_shift (φIM) 106 [(0, .ref (ad 33)), (7, .int v7_1), (8, .int v8_1)] [] M7 (MD_shift_L106 kx ag v7_1 v8_1 M7)
  unfold MD_shift_L106
  refine G_iload dX10_shift_106 2 rfl ?_
  refine G_if_eq 193 dX10_shift_108 (by decide) (fun _ => ?_) (fun _ => ?_)
  refine G_sub [0, 1] rfl ?_
  exact hkx v7_1 M7
  refine G_iconst (v := 0) dX10_shift_111 rfl ?_
  refine G_istore dX10_shift_112 (by decide) (L' := [(9, .int 0), (0, .ref (ad 33)), (7, .int v7_1), (8, .int v8_1)]) rfl ?_
  refine G_iconst (v := 0) dX10_shift_114 rfl ?_
  refine G_istore dX10_shift_115 (by decide) (L' := [(10, .int 0), (9, .int 0), (0, .ref (ad 33)), (7, .int v7_1), (8, .int v8_1)]) rfl ?_
  refine G_sub [2, 3, 1, 0] rfl ?_
  refine w_MD_shift_L117 X ad v7_1 M7 _ (fun v9_4 => ?_) _ _
  refine G_iload dX10_shift_164 2 rfl ?_
  refine G_iload dX10_shift_166 1 rfl ?_
  refine G_jp (fun kq => ∀ (s_2 : Int32), G X ad mi_MD_shift (φIM) 178 [(0, .ref (ad 33))] [.int s_2] M7 (kq s_2)) (fun s_2 => ?_) (fun k_2 hk_2 => ?_)
  refine G_istore dX10_shift_178 (by decide) (L' := [(7, .int s_2), (0, .ref (ad 33))]) rfl ?_
  refine G_aload_n dX10_shift_180 1 rfl ?_
  refine G_aload_n dX10_shift_181 1 rfl ?_
  refine G_getI hclX10 (by decide) rfl 8 (by decide) rfl wd_904 dX10_shift_182 ?_
  refine G_callV_IM (m_MD_nextNames _ M7) cal_MD_nextNames ⟨Nat.le_of_ble_eq_true rfl, Nat.le_of_ble_eq_true rfl⟩ wd_1158 hclX10 (by decide) rfl [.int (M7 33 8)] rfl rfl rfl (Nat.le_of_ble_eq_true rfl) dX10_shift_185 (fun r_7 M8 => ?_)
  refine G_istore dX10_shift_188 (by decide) (L' := [(8, .int r_7), (7, .int s_2), (0, .ref (ad 33))]) rfl ?_
  refine G_goto 106 dX10_shift_190 (by decide) ?_
  refine G_sub [2, 1, 0] rfl ?_
  exact hag (s_2, r_7, M8)
  refine G_icmp_le 176 dX10_shift_168 (by decide) (fun _ => ?_) (fun _ => ?_)
  refine G_iload dX10_shift_176 1 rfl ?_
  refine G_sub [0] rfl ?_
  exact hk_2 v7_1
  refine G_iload dX10_shift_171 2 rfl ?_
  refine G_goto 178 dX10_shift_173 (by decide) ?_
  refine G_sub [0] rfl ?_
  exact hk_2 v9_4

set_option maxRecDepth 100000 in
set_option maxHeartbeats 4000000 in
theorem m_MD_shift (v1 : Int32) (v2 : Int32) (v3 : Int32) (M : Mem) : MC mi_MD_shift (φIM) (fun ad => [.ref (ad 33), .int v1, .int v2, .int v3]) M (MD_shift v1 v2 v3 M) := by
  refine MC_of rfl (by decide +kernel) (fun ad => [(0, .ref (ad 33)), (1, .int v1), (2, .int v2), (3, .int v3)]) (fun _ => rfl) (fun _ => Nat.le_of_ble_eq_true rfl) (fun X ad => ?_)
  show G X ad mi_MD_shift (φIM) 0 [(0, .ref (ad 33)), (1, .int v1), (2, .int v2), (3, .int v3)] [] M _
  unfold MD_shift
  refine G_iload_n dX10_shift_0 3 rfl ?_
  refine G_callS_I (m_MD_isSameness _ M) cal_MD_isSameness ⟨Nat.le_of_ble_eq_true rfl, Nat.le_of_ble_eq_true rfl⟩ wd_1104 rfl rfl (Nat.le_of_ble_eq_true rfl) dX10_shift_1 (fun r_1 => ?_)
  refine G_if_ne 13 dX10_shift_4 (by decide) (fun _ => ?_) (fun _ => ?_)
  refine G_aload_n dX10_shift_7 0 rfl ?_
  refine G_iconst (v := -1) dX10_shift_8 rfl ?_
  refine G_callV_IM (m_MD_no _ M) cal_MD_no ⟨Nat.le_of_ble_eq_true rfl, Nat.le_of_ble_eq_true rfl⟩ wd_1008 hclX10 (by decide) rfl [.int (-1)] rfl rfl rfl (Nat.le_of_ble_eq_true rfl) dX10_shift_9 (fun r_2 M1 => ?_)
  exact G_ireturn rfl rfl dX10_shift_12 rfl
  refine G_iload_n dX10_shift_13 1 rfl ?_
  refine G_jp (fun kq => ∀ (s_1 : Int32), G X ad mi_MD_shift (φIM) 44 [(0, .ref (ad 33)), (1, .int v1), (2, .int v2), (3, .int v3)] [.int s_1] M (kq s_1)) (fun s_1 => ?_) (fun k_1 hk_1 => ?_)
  refine G_istore dX10_shift_44 (by decide) (L' := [(4, .int s_1), (0, .ref (ad 33)), (1, .int v1), (2, .int v2), (3, .int v3)]) rfl ?_
  refine G_iload dX10_shift_46 0 rfl ?_
  refine G_if_eq 58 dX10_shift_48 (by decide) (fun _ => ?_) (fun _ => ?_)
  refine G_aload_n dX10_shift_58 1 rfl ?_
  refine G_iload_n dX10_shift_59 2 rfl ?_
  refine G_iload_n dX10_shift_60 4 rfl ?_
  refine G_callV_IM (m_MD_coarsestOn _ _ M) cal_MD_coarsestOn ⟨Nat.le_of_ble_eq_true rfl, Nat.le_of_ble_eq_true rfl⟩ wd_1250 hclX10 (by decide) rfl [.int v1, .int v3] rfl rfl rfl (Nat.le_of_ble_eq_true rfl) dX10_shift_61 (fun r_3 M2 => ?_)
  refine G_istore dX10_shift_64 (by decide) (L' := [(5, .int r_3), (4, .int s_1), (0, .ref (ad 33)), (1, .int v1), (2, .int v2), (3, .int v3)]) rfl ?_
  refine G_aload_n dX10_shift_66 2 rfl ?_
  refine G_iload_n dX10_shift_67 4 rfl ?_
  refine G_iload_n dX10_shift_68 5 rfl ?_
  refine G_callV_IM (m_MD_coarsestOn _ _ M2) cal_MD_coarsestOn ⟨Nat.le_of_ble_eq_true rfl, Nat.le_of_ble_eq_true rfl⟩ wd_1250 hclX10 (by decide) rfl [.int v2, .int v3] rfl rfl rfl (Nat.le_of_ble_eq_true rfl) dX10_shift_69 (fun r_4 M3 => ?_)
  refine G_istore dX10_shift_72 (by decide) (L' := [(6, .int r_4), (5, .int r_3), (4, .int s_1), (0, .ref (ad 33)), (1, .int v1), (2, .int v2), (3, .int v3)]) rfl ?_
  refine G_aload_n dX10_shift_74 3 rfl ?_
  refine G_iload dX10_shift_75 1 rfl ?_
  refine G_aload_n dX10_shift_77 3 rfl ?_
  refine G_getR hclX10 (by decide) rfl 22 (by decide) rfl wd_918 dX10_shift_78 ?_
  refine G_callV_IM (m_MD_opens _ 50 isA_50 M3) cal_MD_opens ⟨Nat.le_of_ble_eq_true rfl, Nat.le_of_ble_eq_true rfl⟩ wd_1096 hclX10 (by decide) rfl [.int r_3, .ref (ad 50)] rfl rfl rfl (Nat.le_of_ble_eq_true rfl) dX10_shift_81 (fun r_5 M4 => ?_)
  refine G_pop dX10_shift_84 rfl ?_
  refine G_aload_n dX10_shift_85 3 rfl ?_
  refine G_iload dX10_shift_86 0 rfl ?_
  refine G_aload_n dX10_shift_88 3 rfl ?_
  refine G_getR hclX10 (by decide) rfl 23 (by decide) rfl wd_919 dX10_shift_89 ?_
  refine G_callV_IM (m_MD_opens _ 51 isA_51 M4) cal_MD_opens ⟨Nat.le_of_ble_eq_true rfl, Nat.le_of_ble_eq_true rfl⟩ wd_1096 hclX10 (by decide) rfl [.int r_4, .ref (ad 51)] rfl rfl rfl (Nat.le_of_ble_eq_true rfl) dX10_shift_92 (fun r_6 M5 => ?_)
  refine G_pop dX10_shift_95 rfl ?_
  refine G_iconst (v := 0) dX10_shift_96 rfl ?_
  refine G_istore dX10_shift_97 (by decide) (L' := [(7, .int 0), (6, .int r_4), (5, .int r_3), (4, .int s_1), (0, .ref (ad 33)), (1, .int v1), (2, .int v2), (3, .int v3)]) rfl ?_
  refine G_aload_n dX10_shift_99 4 rfl ?_
  refine G_callV_V (m_MD_firstNames M5) cal_MD_firstNames ⟨Nat.le_of_ble_eq_true rfl, Nat.le_of_ble_eq_true rfl⟩ wd_1150 hclX10 (by decide) rfl [] rfl rfl rfl (Nat.le_of_ble_eq_true rfl) dX10_shift_100 (fun M6 => ?_)
  refine G_iconst (v := 1) dX10_shift_103 rfl ?_
  refine G_istore dX10_shift_104 (by decide) (L' := [(8, .int 1), (7, .int 0), (6, .int r_4), (5, .int r_3), (4, .int s_1), (0, .ref (ad 33)), (1, .int v1), (2, .int v2), (3, .int v3)]) rfl ?_
  refine G_sub [5, 1, 0] rfl ?_
  refine w_MD_shift_L106 X ad _ (fun v7_3 M9 => ?_) _ _
  refine G_aload_n dX10_shift_193 0 rfl ?_
  refine G_getI hclX10 (by decide) rfl 8 (by decide) rfl wd_904 dX10_shift_194 ?_
  refine G_iload dX10_shift_197 1 rfl ?_
  refine G_isub dX10_shift_199 ?_
  exact G_ireturn rfl rfl dX10_shift_200 rfl
  refine G_aload_n dX10_shift_51 1 rfl ?_
  refine G_iload dX10_shift_52 0 rfl ?_
  refine G_callV_IM (m_MD_no _ M) cal_MD_no ⟨Nat.le_of_ble_eq_true rfl, Nat.le_of_ble_eq_true rfl⟩ wd_1008 hclX10 (by decide) rfl [.int s_1] rfl rfl rfl (Nat.le_of_ble_eq_true rfl) dX10_shift_54 (fun r_8 M10 => ?_)
  exact G_ireturn rfl rfl dX10_shift_57 rfl
  refine G_if_lt 21 dX10_shift_14 (by decide) (fun _ => ?_) (fun _ => ?_)
  refine G_bipush (v := -4) dX10_shift_21 rfl ?_
  refine G_goto 44 dX10_shift_23 (by decide) ?_
  refine G_sub [0, 1, 2, 3] rfl ?_
  exact hk_1 (-4)
  refine G_iload_n dX10_shift_17 2 rfl ?_
  refine G_if_ge 26 dX10_shift_18 (by decide) (fun _ => ?_) (fun _ => ?_)
  refine G_iload_n dX10_shift_26 1 rfl ?_
  refine G_bipush (v := 100) dX10_shift_27 rfl ?_
  refine G_icmp_gt 38 dX10_shift_29 (by decide) (fun _ => ?_) (fun _ => ?_)
  refine G_bipush (v := -6) dX10_shift_38 rfl ?_
  refine G_goto 44 dX10_shift_40 (by decide) ?_
  refine G_sub [0, 1, 2, 3] rfl ?_
  exact hk_1 (-6)
  refine G_iload_n dX10_shift_32 2 rfl ?_
  refine G_bipush (v := 100) dX10_shift_33 rfl ?_
  refine G_icmp_le 43 dX10_shift_35 (by decide) (fun _ => ?_) (fun _ => ?_)
  refine G_iconst (v := 0) dX10_shift_43 rfl ?_
  refine G_sub [0, 1, 2, 3] rfl ?_
  exact hk_1 0
  refine G_bipush (v := -6) dX10_shift_38 rfl ?_
  refine G_goto 44 dX10_shift_40 (by decide) ?_
  refine G_sub [0, 1, 2, 3] rfl ?_
  exact hk_1 (-6)
  refine G_bipush (v := -4) dX10_shift_21 rfl ?_
  refine G_goto 44 dX10_shift_23 (by decide) ?_
  refine G_sub [0, 1, 2, 3] rfl ?_
  exact hk_1 (-4)

set_option maxRecDepth 100000 in
set_option maxHeartbeats 4000000 in
theorem w_MD_stays_L44 (X : Cx) (ad : Nat → Nat) (v1_1 : Int32) (v2_1 : Int32) (v4_1 : Int32) (kx : Int32 → Mem → Option (Int32 × Mem)) (hkx : ∀ (e5 : Int32) (Me : Mem), G X ad mi_MD_stays (φIM) 73 [(5, .int e5)] [] Me (kx e5 Me)) : ∀ (n : Nat) (s : Int32 × Mem), G X ad mi_MD_stays (φIM) 44 [(0, .ref (ad 33)), (1, .int v1_1), (2, .int v2_1), (4, .int v4_1), (5, .int s.1)] [] s.2 (LOOP (fun aq sq => MD_stays_L44 v1_1 v2_1 v4_1 kx aq sq.1 sq.2) n s) := by
  refine LOOP_rule (fun (s : Int32 × Mem) o => G X ad mi_MD_stays (φIM) 44 [(0, .ref (ad 33)), (1, .int v1_1), (2, .int v2_1), (4, .int v4_1), (5, .int s.1)] [] s.2 o) (fun _ => G_none) (fun ag hag s => ?_)
  obtain ⟨v5_1, M3⟩ := s
  show G X ad mi_MD_stays (φIM) 44 [(0, .ref (ad 33)), (1, .int v1_1), (2, .int v2_1), (4, .int v4_1), (5, .int v5_1)] [] M3 (MD_stays_L44 v1_1 v2_1 v4_1 kx ag v5_1 M3)
  unfold MD_stays_L44
  refine G_iload_n dX10_stays_44 1 rfl ?_
  refine G_iload dX10_stays_45 4 rfl ?_
  refine G_iadd dX10_stays_47 ?_
  refine G_bipush (v := 100) dX10_stays_48 rfl ?_
  refine G_icmp_gt 73 dX10_stays_50 (by decide) (fun _ => ?_) (fun _ => ?_)
  refine G_sub [4] rfl ?_
  exact hkx v5_1 M3
  refine G_aload_n dX10_stays_53 0 rfl ?_
  refine G_iload_n dX10_stays_54 1 rfl ?_
  refine G_iload dX10_stays_55 4 rfl ?_
  refine G_iadd dX10_stays_57 ?_
  refine G_iload_n dX10_stays_58 2 rfl ?_
  refine G_callV_IM (m_MD_coarsestOn _ _ M3) cal_MD_coarsestOn ⟨Nat.le_of_ble_eq_true rfl, Nat.le_of_ble_eq_true rfl⟩ wd_1250 hclX10 (by decide) rfl [.int (v1_1 + v5_1), .int v2_1] rfl rfl rfl (Nat.le_of_ble_eq_true rfl) dX10_stays_59 (fun r_5 M4 => ?_)
  refine G_iload dX10_stays_62 3 rfl ?_
  refine G_icmp_ne 73 dX10_stays_64 (by decide) (fun _ => ?_) (fun _ => ?_)
  refine G_iinc (v5_1 + 1) dX10_stays_67 4 rfl rfl (by decide) (L' := [(5, .int (v5_1 + 1)), (0, .ref (ad 33)), (1, .int v1_1), (2, .int v2_1), (4, .int v4_1)]) rfl ?_
  refine G_goto 44 dX10_stays_70 (by decide) ?_
  refine G_sub [1, 2, 3, 4, 0] rfl ?_
  exact hag (v5_1 + 1, M4)
  refine G_sub [4] rfl ?_
  exact hkx v5_1 M4

set_option maxRecDepth 100000 in
set_option maxHeartbeats 4000000 in
theorem m_MD_stays (v1 : Int32) (v2 : Int32) (M : Mem) : MC mi_MD_stays (φIM) (fun ad => [.ref (ad 33), .int v1, .int v2]) M (MD_stays v1 v2 M) := by
  refine MC_of rfl (by decide +kernel) (fun ad => [(0, .ref (ad 33)), (1, .int v1), (2, .int v2)]) (fun _ => rfl) (fun _ => Nat.le_of_ble_eq_true rfl) (fun X ad => ?_)
  show G X ad mi_MD_stays (φIM) 0 [(0, .ref (ad 33)), (1, .int v1), (2, .int v2)] [] M _
  unfold MD_stays
  refine G_iload_n dX10_stays_0 2 rfl ?_
  refine G_callS_I (m_MD_isSameness _ M) cal_MD_isSameness ⟨Nat.le_of_ble_eq_true rfl, Nat.le_of_ble_eq_true rfl⟩ wd_1104 rfl rfl (Nat.le_of_ble_eq_true rfl) dX10_stays_1 (fun r_1 => ?_)
  refine G_if_ne 13 dX10_stays_4 (by decide) (fun _ => ?_) (fun _ => ?_)
  refine G_aload_n dX10_stays_7 0 rfl ?_
  refine G_iconst (v := -1) dX10_stays_8 rfl ?_
  refine G_callV_IM (m_MD_no _ M) cal_MD_no ⟨Nat.le_of_ble_eq_true rfl, Nat.le_of_ble_eq_true rfl⟩ wd_1008 hclX10 (by decide) rfl [.int (-1)] rfl rfl rfl (Nat.le_of_ble_eq_true rfl) dX10_stays_9 (fun r_2 M1 => ?_)
  exact G_ireturn rfl rfl dX10_stays_12 rfl
  refine G_iload_n dX10_stays_13 1 rfl ?_
  refine G_i2l dX10_stays_14 ?_
  refine G_lconst (v := 0) dX10_stays_15 rfl ?_
  refine G_ldc2 wd_1025 dX10_stays_16 ?_
  refine G_callS_I (m_MD_out _ _ _ M) cal_MD_out ⟨Nat.le_of_ble_eq_true rfl, Nat.le_of_ble_eq_true rfl⟩ wd_1005 rfl rfl (Nat.le_of_ble_eq_true rfl) dX10_stays_19 (fun r_3 => ?_)
  refine G_istore_n 3 rfl dX10_stays_22 (by decide) (L' := [(3, .int r_3), (0, .ref (ad 33)), (1, .int v1), (2, .int v2)]) rfl ?_
  refine G_iload_n dX10_stays_23 0 rfl ?_
  refine G_if_eq 33 dX10_stays_24 (by decide) (fun _ => ?_) (fun _ => ?_)
  refine G_aload_n dX10_stays_33 1 rfl ?_
  refine G_iload_n dX10_stays_34 2 rfl ?_
  refine G_iload_n dX10_stays_35 3 rfl ?_
  refine G_callV_IM (m_MD_coarsestOn _ _ M) cal_MD_coarsestOn ⟨Nat.le_of_ble_eq_true rfl, Nat.le_of_ble_eq_true rfl⟩ wd_1250 hclX10 (by decide) rfl [.int v1, .int v2] rfl rfl rfl (Nat.le_of_ble_eq_true rfl) dX10_stays_36 (fun r_4 M2 => ?_)
  refine G_istore dX10_stays_39 (by decide) (L' := [(4, .int r_4), (3, .int r_3), (0, .ref (ad 33)), (1, .int v1), (2, .int v2)]) rfl ?_
  refine G_iconst (v := 1) dX10_stays_41 rfl ?_
  refine G_istore dX10_stays_42 (by decide) (L' := [(5, .int 1), (4, .int r_4), (3, .int r_3), (0, .ref (ad 33)), (1, .int v1), (2, .int v2)]) rfl ?_
  refine G_sub [3, 4, 5, 1, 0] rfl ?_
  refine w_MD_stays_L44 X ad v1 v2 r_4 _ (fun v5_2 M5 => ?_) _ _
  refine G_iload dX10_stays_73 0 rfl ?_
  exact G_ireturn rfl rfl dX10_stays_75 rfl
  refine G_aload_n dX10_stays_27 1 rfl ?_
  refine G_iload_n dX10_stays_28 0 rfl ?_
  refine G_callV_IM (m_MD_no _ M) cal_MD_no ⟨Nat.le_of_ble_eq_true rfl, Nat.le_of_ble_eq_true rfl⟩ wd_1008 hclX10 (by decide) rfl [.int r_3] rfl rfl rfl (Nat.le_of_ble_eq_true rfl) dX10_stays_29 (fun r_6 M6 => ?_)
  exact G_ireturn rfl rfl dX10_stays_32 rfl

set_option maxRecDepth 100000 in
set_option maxHeartbeats 4000000 in
theorem w_MD_count_L84 (X : Cx) (ad : Nat → Nat) (M1 : Mem) (kx : Int32 → Option (Int32 × Mem)) (hkx : ∀ (e2 : Int32), G X ad mi_MD_count (φIM) 114 [(2, .int e2)] [] M1 (kx e2)) : ∀ (n : Nat) (s : Int32 × Int32), G X ad mi_MD_count (φIM) 84 [(0, .ref (ad 33)), (2, .int s.1), (3, .int s.2)] [] M1 (LOOP (fun aq sq => MD_count_L84 M1 kx aq sq.1 sq.2) n s) := by
  refine LOOP_rule (fun (s : Int32 × Int32) o => G X ad mi_MD_count (φIM) 84 [(0, .ref (ad 33)), (2, .int s.1), (3, .int s.2)] [] M1 o) (fun _ => G_none) (fun ag hag s => ?_)
  obtain ⟨v2_1, v3_1⟩ := s
  show G X ad mi_MD_count (φIM) 84 [(0, .ref (ad 33)), (2, .int v2_1), (3, .int v3_1)] [] M1 (MD_count_L84 M1 kx ag v2_1 v3_1)
  unfold MD_count_L84
  refine G_iload_n dX10_count_84 2 rfl ?_
  refine G_sipush (v := 147) dX10_count_85 rfl ?_
  refine G_icmp_ge 114 dX10_count_88 (by decide) (fun _ => ?_) (fun _ => ?_)
  refine G_sub [1] rfl ?_
  exact hkx v2_1
  refine G_iload_n dX10_count_91 1 rfl ?_
  refine G_aload_n dX10_count_92 0 rfl ?_
  refine G_getR hclX10 (by decide) rfl 21 (by decide) rfl wd_917 dX10_count_93 ?_
  refine G_iload_n dX10_count_96 2 rfl ?_
  refine G_iald (by decide) rfl dX10_count_97 ?_
  refine G_if_le 105 dX10_count_98 (by decide) (fun _ => ?_) (fun _ => ?_)
  refine G_iconst (v := 0) dX10_count_105 rfl ?_
  refine G_iadd dX10_count_106 ?_
  refine G_nmI (fun v2_2 => ?_)
  refine G_istore_n 2 rfl dX10_count_107 (by decide) (L' := [(2, .int v2_2), (0, .ref (ad 33)), (3, .int v3_1)]) rfl ?_
  refine G_iinc (v3_1 + 1) dX10_count_108 2 rfl rfl (by decide) (L' := [(3, .int (v3_1 + 1)), (2, .int v2_2), (0, .ref (ad 33))]) rfl ?_
  refine G_goto 84 dX10_count_111 (by decide) ?_
  refine G_sub [2, 1, 0] rfl ?_
  exact hag (v2_2, v3_1 + 1)
  refine G_iconst (v := 1) dX10_count_101 rfl ?_
  refine G_goto 106 dX10_count_102 (by decide) ?_
  refine G_iadd dX10_count_106 ?_
  refine G_nmI (fun v2_3 => ?_)
  refine G_istore_n 2 rfl dX10_count_107 (by decide) (L' := [(2, .int v2_3), (0, .ref (ad 33)), (3, .int v3_1)]) rfl ?_
  refine G_iinc (v3_1 + 1) dX10_count_108 2 rfl rfl (by decide) (L' := [(3, .int (v3_1 + 1)), (2, .int v2_3), (0, .ref (ad 33))]) rfl ?_
  refine G_goto 84 dX10_count_111 (by decide) ?_
  refine G_sub [2, 1, 0] rfl ?_
  exact hag (v2_3, v3_1 + 1)

set_option maxRecDepth 100000 in
set_option maxHeartbeats 4000000 in
theorem m_MD_count (v1 : Int32) (M : Mem) : MC mi_MD_count (φIM) (fun ad => [.ref (ad 33), .int v1]) M (MD_count v1 M) := by
  refine MC_of rfl (by decide +kernel) (fun ad => [(0, .ref (ad 33)), (1, .int v1)]) (fun _ => rfl) (fun _ => Nat.le_of_ble_eq_true rfl) (fun X ad => ?_)
  show G X ad mi_MD_count (φIM) 0 [(0, .ref (ad 33)), (1, .int v1)] [] M _
  unfold MD_count
  refine G_iload_n dX10_count_0 1 rfl ?_
  refine G_i2l dX10_count_1 ?_
  refine G_ldc2 wd_1262 dX10_count_2 ?_
  refine G_ldc2 wd_1263 dX10_count_5 ?_
  refine G_callS_I (m_MD_isIn _ _ _ M) cal_MD_isIn ⟨Nat.le_of_ble_eq_true rfl, Nat.le_of_ble_eq_true rfl⟩ wd_1052 rfl rfl (Nat.le_of_ble_eq_true rfl) dX10_count_8 (fun r_1 => ?_)
  refine G_if_eq 24 dX10_count_11 (by decide) (fun _ => ?_) (fun _ => ?_)
  refine G_iconst (v := 0) dX10_count_24 rfl ?_
  refine G_istore_n 2 rfl dX10_count_25 (by decide) (L' := [(2, .int 0), (0, .ref (ad 33)), (1, .int v1)]) rfl ?_
  refine G_iload_n dX10_count_26 2 rfl ?_
  refine G_ite (fun hc0 => ?_) (fun hc0 => ?_)
  refine G_tswIn 0 64 dX10_count_27 hc0 (by decide) (by decide) rfl (by decide) ?_
  refine G_aload_n dX10_count_64 1 rfl ?_
  refine G_getI hclX10 (by decide) rfl 8 (by decide) rfl wd_904 dX10_count_65 ?_
  exact G_ireturn rfl rfl dX10_count_68 rfl
  refine G_ite (fun hc1 => ?_) (fun hc1 => ?_)
  refine G_tswIn 1 69 dX10_count_27 hc1 (by decide) (by decide) rfl (by decide) ?_
  refine G_aload_n dX10_count_69 1 rfl ?_
  refine G_getI hclX10 (by decide) rfl 9 (by decide) rfl wd_905 dX10_count_70 ?_
  exact G_ireturn rfl rfl dX10_count_73 rfl
  refine G_ite (fun hc2 => ?_) (fun hc2 => ?_)
  refine G_tswIn 2 74 dX10_count_27 hc2 (by decide) (by decide) rfl (by decide) ?_
  refine G_aload_n dX10_count_74 1 rfl ?_
  refine G_aload_n dX10_count_75 1 rfl ?_
  refine G_getI hclX10 (by decide) rfl 10 (by decide) rfl wd_906 dX10_count_76 ?_
  refine G_callV_V (m_MD_findTies _ M) cal_MD_findTies ⟨Nat.le_of_ble_eq_true rfl, Nat.le_of_ble_eq_true rfl⟩ wd_1076 hclX10 (by decide) rfl [.int (M 33 10)] rfl rfl rfl (Nat.le_of_ble_eq_true rfl) dX10_count_79 (fun M1 => ?_)
  refine G_iconst (v := 0) dX10_count_82 rfl ?_
  refine G_istore_n 3 rfl dX10_count_83 (by decide) (L' := [(3, .int 0), (2, .int 0), (0, .ref (ad 33)), (1, .int v1)]) rfl ?_
  refine G_sub [2, 1, 0] rfl ?_
  refine w_MD_count_L84 X ad M1 _ (fun v2_4 => ?_) _ _
  refine G_iload_n dX10_count_114 0 rfl ?_
  exact G_ireturn rfl rfl dX10_count_115 rfl
  refine G_ite (fun hc3 => ?_) (fun hc3 => ?_)
  refine G_tswIn 3 116 dX10_count_27 hc3 (by decide) (by decide) rfl (by decide) ?_
  refine G_aload_n dX10_count_116 1 rfl ?_
  refine G_getI hclX10 (by decide) rfl 10 (by decide) rfl wd_906 dX10_count_117 ?_
  exact G_ireturn rfl rfl dX10_count_120 rfl
  refine G_ite (fun hc4 => ?_) (fun hc4 => ?_)
  refine G_tswIn 4 121 dX10_count_27 hc4 (by decide) (by decide) rfl (by decide) ?_
  refine G_aload_n dX10_count_121 1 rfl ?_
  refine G_getI hclX10 (by decide) rfl 12 (by decide) rfl wd_908 dX10_count_122 ?_
  exact G_ireturn rfl rfl dX10_count_125 rfl
  refine G_ite (fun hc5 => ?_) (fun hc5 => ?_)
  refine G_tswIn 5 126 dX10_count_27 hc5 (by decide) (by decide) rfl (by decide) ?_
  refine G_aload_n dX10_count_126 1 rfl ?_
  refine G_getI hclX10 (by decide) rfl 33 (by decide) rfl wd_929 dX10_count_127 ?_
  exact G_ireturn rfl rfl dX10_count_130 rfl
  refine G_tswOut 131 dX10_count_27 (by have e0 := lv_neT hc0 (k := 0) (a := 0) rfl; have e1 := lv_neT hc1 (k := 1) (a := 1) rfl; have e2 := lv_neT hc2 (k := 2) (a := 2) rfl; have e3 := lv_neT hc3 (k := 3) (a := 3) rfl; have e4 := lv_neT hc4 (k := 4) (a := 4) rfl; have e5 := lv_neT hc5 (k := 5) (a := 5) rfl; omega) (by decide) ?_
  refine G_bipush (v := -9) dX10_count_131 rfl ?_
  exact G_ireturn rfl rfl dX10_count_133 rfl
  refine G_aload_n dX10_count_14 0 rfl ?_
  refine G_getR hclX10 (by decide) rfl 0 (by decide) rfl wd_896 dX10_count_15 ?_
  refine G_iload_n dX10_count_18 1 rfl ?_
  refine G_bipush (v := 10) dX10_count_19 rfl ?_
  refine G_isub dX10_count_21 ?_
  refine G_iald (by decide) rfl dX10_count_22 ?_
  exact G_ireturn rfl rfl dX10_count_23 rfl

