/-! printed by wip/whole/gen.py: the bytecode does what the functions say -/
set_option maxRecDepth 100000 in
set_option maxHeartbeats 4000000 in
theorem w_MD_form_L43 (X : Cx) (ad : Nat → Nat) (v1_3 : Int32) (v3_2 : Int32) (kx : Int32 → Mem → Option (Int32 × Mem)) (hkx : ∀ (e4 : Int32) (Me : Mem), G X ad mi_MD_form (φIM) 80 [(0, .ref (ad 33)), (1, .int v1_3), (3, .int v3_2), (4, .int e4)] [] Me (kx e4 Me)) : ∀ (n : Nat) (s : Int32 × Int32 × Mem), G X ad mi_MD_form (φIM) 43 [(0, .ref (ad 33)), (1, .int v1_3), (3, .int v3_2), (4, .int s.1), (5, .int s.2.1)] [] s.2.2 (LOOP (fun aq sq => MD_form_L43 kx aq sq.1 sq.2.1 sq.2.2) n s) := by
  refine LOOP_rule (fun (s : Int32 × Int32 × Mem) o => G X ad mi_MD_form (φIM) 43 [(0, .ref (ad 33)), (1, .int v1_3), (3, .int v3_2), (4, .int s.1), (5, .int s.2.1)] [] s.2.2 o) (fun _ => G_none) (fun ag hag s => ?_)
  obtain ⟨v4_1, v5_1, M4⟩ := s
  show G X ad mi_MD_form (φIM) 43 [(0, .ref (ad 33)), (1, .int v1_3), (3, .int v3_2), (4, .int v4_1), (5, .int v5_1)] [] M4 (MD_form_L43 kx ag v4_1 v5_1 M4)
  unfold MD_form_L43
  refine G_iload dX10_form_43 4 rfl ?_
  refine G_aload_n dX10_form_45 0 rfl ?_
  refine G_getI hclX10 (by decide) rfl 8 (by decide) rfl wd_904 dX10_form_46 ?_
  refine G_icmp_ge 80 dX10_form_49 (by decide) (fun _ => ?_) (fun _ => ?_)
  refine G_sub [0, 1, 2, 3] rfl ?_
  exact hkx v4_1 M4
  refine G_aload_n dX10_form_52 0 rfl ?_
  refine G_getR hclX10 (by decide) rfl 28 (by decide) rfl wd_924 dX10_form_53 ?_
  refine G_iload dX10_form_56 3 rfl ?_
  refine G_aload_n dX10_form_58 0 rfl ?_
  refine G_getR hclX10 (by decide) rfl 1 (by decide) rfl wd_897 dX10_form_59 ?_
  refine G_aload_n dX10_form_62 0 rfl ?_
  refine G_getR hclX10 (by decide) rfl 26 (by decide) rfl wd_922 dX10_form_63 ?_
  refine G_iload dX10_form_66 4 rfl ?_
  refine G_iald (by decide) rfl dX10_form_68 ?_
  refine G_iald (by decide) rfl dX10_form_69 ?_
  refine G_iast (by decide) rfl dX10_form_70 (fun M5 => ?_)
  refine G_iinc (v4_1 + 1) dX10_form_71 3 rfl rfl (by decide) (L' := [(4, .int (v4_1 + 1)), (0, .ref (ad 33)), (1, .int v1_3), (3, .int v3_2), (5, .int v5_1)]) rfl ?_
  refine G_iinc (v5_1 + 1) dX10_form_74 4 rfl rfl (by decide) (L' := [(5, .int (v5_1 + 1)), (4, .int (v4_1 + 1)), (0, .ref (ad 33)), (1, .int v1_3), (3, .int v3_2)]) rfl ?_
  refine G_goto 43 dX10_form_77 (by decide) ?_
  refine G_sub [2, 3, 4, 1, 0] rfl ?_
  exact hag (v4_1 + 1, v5_1 + 1, M5)

set_option maxRecDepth 100000 in
set_option maxHeartbeats 4000000 in
theorem w_MD_form_L104 (X : Cx) (ad : Nat → Nat) (v1_6 : Int32) (v3_5 : Int32) (v5_4 : Int32) (v6_2 : Int32) (kx : Int32 → Mem → Option (Int32 × Mem)) (hkx : ∀ (e4 : Int32) (Me : Mem), G X ad mi_MD_form (φIM) 149 [(0, .ref (ad 33)), (1, .int v1_6), (3, .int v3_5), (4, .int e4), (5, .int v5_4), (6, .int v6_2)] [] Me (kx e4 Me)) : ∀ (n : Nat) (s : Int32 × Int32 × Mem), G X ad mi_MD_form (φIM) 104 [(0, .ref (ad 33)), (1, .int v1_6), (3, .int v3_5), (4, .int s.1), (5, .int v5_4), (6, .int v6_2), (7, .int s.2.1)] [] s.2.2 (LOOP (fun aq sq => MD_form_L104 v5_4 v6_2 kx aq sq.1 sq.2.1 sq.2.2) n s) := by
  refine LOOP_rule (fun (s : Int32 × Int32 × Mem) o => G X ad mi_MD_form (φIM) 104 [(0, .ref (ad 33)), (1, .int v1_6), (3, .int v3_5), (4, .int s.1), (5, .int v5_4), (6, .int v6_2), (7, .int s.2.1)] [] s.2.2 o) (fun _ => G_none) (fun ag hag s => ?_)
  obtain ⟨v4_5, v7_1, M9⟩ := s
  show G X ad mi_MD_form (φIM) 104 [(0, .ref (ad 33)), (1, .int v1_6), (3, .int v3_5), (4, .int v4_5), (5, .int v5_4), (6, .int v6_2), (7, .int v7_1)] [] M9 (MD_form_L104 v5_4 v6_2 kx ag v4_5 v7_1 M9)
  unfold MD_form_L104
  refine G_iload dX10_form_104 6 rfl ?_
  refine G_aload_n dX10_form_106 0 rfl ?_
  refine G_getI hclX10 (by decide) rfl 8 (by decide) rfl wd_904 dX10_form_107 ?_
  refine G_icmp_ge 149 dX10_form_110 (by decide) (fun _ => ?_) (fun _ => ?_)
  refine G_sub [0, 1, 2, 3, 4, 5] rfl ?_
  exact hkx v4_5 M9
  refine G_aload_n dX10_form_113 0 rfl ?_
  refine G_getR hclX10 (by decide) rfl 28 (by decide) rfl wd_924 dX10_form_114 ?_
  refine G_iload dX10_form_117 3 rfl ?_
  refine G_aload_n dX10_form_119 0 rfl ?_
  refine G_iload dX10_form_120 4 rfl ?_
  refine G_aload_n dX10_form_122 0 rfl ?_
  refine G_getR hclX10 (by decide) rfl 26 (by decide) rfl wd_922 dX10_form_123 ?_
  refine G_iload dX10_form_126 5 rfl ?_
  refine G_iald (by decide) rfl dX10_form_128 ?_
  refine G_aload_n dX10_form_129 0 rfl ?_
  refine G_getR hclX10 (by decide) rfl 26 (by decide) rfl wd_922 dX10_form_130 ?_
  refine G_iload dX10_form_133 6 rfl ?_
  refine G_iald (by decide) rfl dX10_form_135 ?_
  refine G_callV_I (m_MD_strong _ _ _ M9) cal_MD_strong ⟨Nat.le_of_ble_eq_true rfl, Nat.le_of_ble_eq_true rfl⟩ wd_1080 hclX10 (by decide) rfl [.int v5_4, .int (rd M9 54 v6_2), .int (rd M9 54 v7_1)] rfl rfl rfl (Nat.le_of_ble_eq_true rfl) dX10_form_136 (fun r_1 => ?_)
  refine G_iast (by decide) rfl dX10_form_139 (fun M10 => ?_)
  refine G_iinc (v4_5 + 1) dX10_form_140 3 rfl rfl (by decide) (L' := [(4, .int (v4_5 + 1)), (0, .ref (ad 33)), (1, .int v1_6), (3, .int v3_5), (5, .int v5_4), (6, .int v6_2), (7, .int v7_1)]) rfl ?_
  refine G_iinc (v7_1 + 1) dX10_form_143 6 rfl rfl (by decide) (L' := [(7, .int (v7_1 + 1)), (4, .int (v4_5 + 1)), (0, .ref (ad 33)), (1, .int v1_6), (3, .int v3_5), (5, .int v5_4), (6, .int v6_2)]) rfl ?_
  refine G_goto 104 dX10_form_146 (by decide) ?_
  refine G_sub [2, 3, 4, 1, 5, 6, 0] rfl ?_
  exact hag (v4_5 + 1, v7_1 + 1, M10)

set_option maxRecDepth 100000 in
set_option maxHeartbeats 4000000 in
theorem w_MD_form_L92 (X : Cx) (ad : Nat → Nat) (v1_5 : Int32) (v3_4 : Int32) (v5_3 : Int32) (kx : Int32 → Mem → Option (Int32 × Mem)) (hkx : ∀ (e4 : Int32) (Me : Mem), G X ad mi_MD_form (φIM) 155 [(0, .ref (ad 33)), (1, .int v1_5), (3, .int v3_4), (4, .int e4), (5, .int v5_3)] [] Me (kx e4 Me)) : ∀ (n : Nat) (s : Int32 × Int32 × Mem), G X ad mi_MD_form (φIM) 92 [(0, .ref (ad 33)), (1, .int v1_5), (3, .int v3_4), (4, .int s.1), (5, .int v5_3), (6, .int s.2.1)] [] s.2.2 (LOOP (fun aq sq => MD_form_L92 v5_3 kx aq sq.1 sq.2.1 sq.2.2) n s) := by
  refine LOOP_rule (fun (s : Int32 × Int32 × Mem) o => G X ad mi_MD_form (φIM) 92 [(0, .ref (ad 33)), (1, .int v1_5), (3, .int v3_4), (4, .int s.1), (5, .int v5_3), (6, .int s.2.1)] [] s.2.2 o) (fun _ => G_none) (fun ag hag s => ?_)
  obtain ⟨v4_4, v6_1, M8⟩ := s
  show G X ad mi_MD_form (φIM) 92 [(0, .ref (ad 33)), (1, .int v1_5), (3, .int v3_4), (4, .int v4_4), (5, .int v5_3), (6, .int v6_1)] [] M8 (MD_form_L92 v5_3 kx ag v4_4 v6_1 M8)
  unfold MD_form_L92
  refine G_iload dX10_form_92 5 rfl ?_
  refine G_aload_n dX10_form_94 0 rfl ?_
  refine G_getI hclX10 (by decide) rfl 8 (by decide) rfl wd_904 dX10_form_95 ?_
  refine G_icmp_ge 155 dX10_form_98 (by decide) (fun _ => ?_) (fun _ => ?_)
  refine G_sub [0, 1, 2, 3, 4] rfl ?_
  exact hkx v4_4 M8
  refine G_iconst (v := 0) dX10_form_101 rfl ?_
  refine G_istore dX10_form_102 (by decide) (L' := [(7, .int 0), (0, .ref (ad 33)), (1, .int v1_5), (3, .int v3_4), (4, .int v4_4), (5, .int v5_3), (6, .int v6_1)]) rfl ?_
  refine G_sub [1, 2, 3, 4, 5, 6, 0] rfl ?_
  refine w_MD_form_L104 X ad v1_5 v3_4 v5_3 v6_1 _ (fun v4_6 M11 => ?_) _ _
  refine G_iinc (v6_1 + 1) dX10_form_149 5 rfl rfl (by decide) (L' := [(6, .int (v6_1 + 1)), (0, .ref (ad 33)), (1, .int v1_5), (3, .int v3_4), (4, .int v4_6), (5, .int v5_3)]) rfl ?_
  refine G_goto 92 dX10_form_152 (by decide) ?_
  refine G_sub [1, 2, 3, 4, 5, 0] rfl ?_
  exact hag (v4_6, v6_1 + 1, M11)

set_option maxRecDepth 100000 in
set_option maxHeartbeats 4000000 in
theorem w_MD_form_L83 (X : Cx) (ad : Nat → Nat) (v1_4 : Int32) (v3_3 : Int32) (kx : Mem → Option (Int32 × Mem)) (hkx : ∀ (Me : Mem), G X ad mi_MD_form (φIM) 161 [(0, .ref (ad 33)), (1, .int v1_4), (3, .int v3_3)] [] Me (kx Me)) : ∀ (n : Nat) (s : Int32 × Int32 × Mem), G X ad mi_MD_form (φIM) 83 [(0, .ref (ad 33)), (1, .int v1_4), (3, .int v3_3), (4, .int s.1), (5, .int s.2.1)] [] s.2.2 (LOOP (fun aq sq => MD_form_L83 kx aq sq.1 sq.2.1 sq.2.2) n s) := by
  refine LOOP_rule (fun (s : Int32 × Int32 × Mem) o => G X ad mi_MD_form (φIM) 83 [(0, .ref (ad 33)), (1, .int v1_4), (3, .int v3_3), (4, .int s.1), (5, .int s.2.1)] [] s.2.2 o) (fun _ => G_none) (fun ag hag s => ?_)
  obtain ⟨v4_3, v5_2, M7⟩ := s
  show G X ad mi_MD_form (φIM) 83 [(0, .ref (ad 33)), (1, .int v1_4), (3, .int v3_3), (4, .int v4_3), (5, .int v5_2)] [] M7 (MD_form_L83 kx ag v4_3 v5_2 M7)
  unfold MD_form_L83
  refine G_iload dX10_form_83 4 rfl ?_
  refine G_iconst (v := 3) dX10_form_85 rfl ?_
  refine G_icmp_ge 161 dX10_form_86 (by decide) (fun _ => ?_) (fun _ => ?_)
  refine G_sub [0, 1, 2] rfl ?_
  exact hkx M7
  refine G_iconst (v := 0) dX10_form_89 rfl ?_
  refine G_istore dX10_form_90 (by decide) (L' := [(6, .int 0), (0, .ref (ad 33)), (1, .int v1_4), (3, .int v3_3), (4, .int v4_3), (5, .int v5_2)]) rfl ?_
  refine G_sub [1, 2, 3, 4, 5, 0] rfl ?_
  refine w_MD_form_L92 X ad v1_4 v3_3 v5_2 _ (fun v4_7 M12 => ?_) _ _
  refine G_iinc (v5_2 + 1) dX10_form_155 4 rfl rfl (by decide) (L' := [(5, .int (v5_2 + 1)), (0, .ref (ad 33)), (1, .int v1_4), (3, .int v3_3), (4, .int v4_7)]) rfl ?_
  refine G_goto 83 dX10_form_158 (by decide) ?_
  refine G_sub [1, 2, 3, 4, 0] rfl ?_
  exact hag (v4_7, v5_2 + 1, M12)

set_option maxRecDepth 100000 in
set_option maxHeartbeats 4000000 in
theorem w_MD_form_L164 (X : Cx) (ad : Nat → Nat) (v1_7 : Int32) (v3_6 : Int32) (M13 : Mem) (kx : Int32 → Option (Int32 × Mem)) (hkx : ∀ (e5 : Int32), G X ad mi_MD_form (φIM) 197 [(0, .ref (ad 33)), (1, .int v1_7), (3, .int v3_6), (5, .int e5)] [] M13 (kx e5)) : ∀ (n : Nat) (s : Int32), G X ad mi_MD_form (φIM) 164 [(0, .ref (ad 33)), (1, .int v1_7), (3, .int v3_6), (5, .int s)] [] M13 (LOOP (fun aq sq => MD_form_L164 v1_7 v3_6 M13 kx aq sq) n s) := by
  refine LOOP_rule (fun (s : Int32) o => G X ad mi_MD_form (φIM) 164 [(0, .ref (ad 33)), (1, .int v1_7), (3, .int v3_6), (5, .int s)] [] M13 o) (fun _ => G_none) (fun ag hag v5_5 => ?_)
  show G X ad mi_MD_form (φIM) 164 [(0, .ref (ad 33)), (1, .int v1_7), (3, .int v3_6), (5, .int v5_5)] [] M13 (MD_form_L164 v1_7 v3_6 M13 kx ag v5_5)
  unfold MD_form_L164
  refine G_iload_n dX10_form_164 2 rfl ?_
  refine G_if_ne 197 dX10_form_165 (by decide) (fun _ => ?_) (fun _ => ?_)
  refine G_iload dX10_form_168 3 rfl ?_
  refine G_iload_n dX10_form_170 1 rfl ?_
  refine G_icmp_ge 197 dX10_form_171 (by decide) (fun _ => ?_) (fun _ => ?_)
  refine G_sub [0, 1, 2, 3] rfl ?_
  exact hkx v5_5
  refine G_aload_n dX10_form_174 0 rfl ?_
  refine G_getR hclX10 (by decide) rfl 28 (by decide) rfl wd_924 dX10_form_175 ?_
  refine G_iload dX10_form_178 3 rfl ?_
  refine G_iald (by decide) rfl dX10_form_180 ?_
  refine G_aload_n dX10_form_181 0 rfl ?_
  refine G_getR hclX10 (by decide) rfl 27 (by decide) rfl wd_923 dX10_form_182 ?_
  refine G_iload dX10_form_185 3 rfl ?_
  refine G_iald (by decide) rfl dX10_form_187 ?_
  refine G_icmp_ne 197 dX10_form_188 (by decide) (fun _ => ?_) (fun _ => ?_)
  refine G_iinc (v5_5 + 1) dX10_form_191 3 rfl rfl (by decide) (L' := [(5, .int (v5_5 + 1)), (0, .ref (ad 33)), (1, .int v1_7), (3, .int v3_6)]) rfl ?_
  refine G_goto 164 dX10_form_194 (by decide) ?_
  refine G_sub [1, 2, 3, 0] rfl ?_
  exact hag (v5_5 + 1)
  refine G_sub [0, 1, 2, 3] rfl ?_
  exact hkx v5_5
  refine G_sub [0, 1, 2, 3] rfl ?_
  exact hkx v5_5

set_option maxRecDepth 100000 in
set_option maxHeartbeats 4000000 in
theorem w_MD_form_L227 (X : Cx) (ad : Nat → Nat) (v1_8 : Int32) (kx : Mem → Option (Int32 × Mem)) (hkx : ∀ (Me : Mem), G X ad mi_MD_form (φIM) 253 [(0, .ref (ad 33)), (1, .int v1_8)] [] Me (kx Me)) : ∀ (n : Nat) (s : Int32 × Mem), G X ad mi_MD_form (φIM) 227 [(0, .ref (ad 33)), (1, .int v1_8), (6, .int s.1)] [] s.2 (LOOP (fun aq sq => MD_form_L227 v1_8 kx aq sq.1 sq.2) n s) := by
  refine LOOP_rule (fun (s : Int32 × Mem) o => G X ad mi_MD_form (φIM) 227 [(0, .ref (ad 33)), (1, .int v1_8), (6, .int s.1)] [] s.2 o) (fun _ => G_none) (fun ag hag s => ?_)
  obtain ⟨v6_3, M16⟩ := s
  show G X ad mi_MD_form (φIM) 227 [(0, .ref (ad 33)), (1, .int v1_8), (6, .int v6_3)] [] M16 (MD_form_L227 v1_8 kx ag v6_3 M16)
  unfold MD_form_L227
  refine G_iload dX10_form_227 2 rfl ?_
  refine G_iload_n dX10_form_229 1 rfl ?_
  refine G_icmp_ge 253 dX10_form_230 (by decide) (fun _ => ?_) (fun _ => ?_)
  refine G_sub [0, 1] rfl ?_
  exact hkx M16
  refine G_aload_n dX10_form_233 0 rfl ?_
  refine G_getR hclX10 (by decide) rfl 27 (by decide) rfl wd_923 dX10_form_234 ?_
  refine G_iload dX10_form_237 2 rfl ?_
  refine G_aload_n dX10_form_239 0 rfl ?_
  refine G_getR hclX10 (by decide) rfl 28 (by decide) rfl wd_924 dX10_form_240 ?_
  refine G_iload dX10_form_243 2 rfl ?_
  refine G_iald (by decide) rfl dX10_form_245 ?_
  refine G_iast (by decide) rfl dX10_form_246 (fun M17 => ?_)
  refine G_iinc (v6_3 + 1) dX10_form_247 2 rfl rfl (by decide) (L' := [(6, .int (v6_3 + 1)), (0, .ref (ad 33)), (1, .int v1_8)]) rfl ?_
  refine G_goto 227 dX10_form_250 (by decide) ?_
  refine G_sub [1, 2, 0] rfl ?_
  exact hag (v6_3 + 1, M17)

set_option maxRecDepth 100000 in
set_option maxHeartbeats 4000000 in
theorem w_MD_form_L33 (X : Cx) (ad : Nat → Nat) (v1_2 : Int32) (kx : Mem → Option (Int32 × Mem)) (hkx : ∀ (Me : Mem), G X ad mi_MD_form (φIM) 267 [(0, .ref (ad 33)), (1, .int v1_2)] [] Me (kx Me)) : ∀ (n : Nat) (s : Int32 × Int32 × Mem), G X ad mi_MD_form (φIM) 33 [(0, .ref (ad 33)), (1, .int v1_2), (2, .int s.1), (3, .int s.2.1)] [] s.2.2 (LOOP (fun aq sq => MD_form_L33 v1_2 kx aq sq.1 sq.2.1 sq.2.2) n s) := by
  refine LOOP_rule (fun (s : Int32 × Int32 × Mem) o => G X ad mi_MD_form (φIM) 33 [(0, .ref (ad 33)), (1, .int v1_2), (2, .int s.1), (3, .int s.2.1)] [] s.2.2 o) (fun _ => G_none) (fun ag hag s => ?_)
  obtain ⟨v2_1, v3_1, M3⟩ := s
  show G X ad mi_MD_form (φIM) 33 [(0, .ref (ad 33)), (1, .int v1_2), (2, .int v2_1), (3, .int v3_1)] [] M3 (MD_form_L33 v1_2 kx ag v2_1 v3_1 M3)
  unfold MD_form_L33
  refine G_iload_n dX10_form_33 2 rfl ?_
  refine G_if_eq 267 dX10_form_34 (by decide) (fun _ => ?_) (fun _ => ?_)
  refine G_sub [0, 1] rfl ?_
  exact hkx M3
  refine G_iconst (v := 0) dX10_form_37 rfl ?_
  refine G_istore dX10_form_38 (by decide) (L' := [(4, .int 0), (0, .ref (ad 33)), (1, .int v1_2), (2, .int v2_1), (3, .int v3_1)]) rfl ?_
  refine G_iconst (v := 0) dX10_form_40 rfl ?_
  refine G_istore dX10_form_41 (by decide) (L' := [(5, .int 0), (4, .int 0), (0, .ref (ad 33)), (1, .int v1_2), (2, .int v2_1), (3, .int v3_1)]) rfl ?_
  refine G_sub [2, 3, 5, 1, 0] rfl ?_
  refine w_MD_form_L43 X ad v1_2 v3_1 _ (fun v4_2 M6 => ?_) _ _
  refine G_iconst (v := 0) dX10_form_80 rfl ?_
  refine G_istore dX10_form_81 (by decide) (L' := [(5, .int 0), (0, .ref (ad 33)), (1, .int v1_2), (3, .int v3_1), (4, .int v4_2)]) rfl ?_
  refine G_sub [1, 2, 3, 4, 0] rfl ?_
  refine w_MD_form_L83 X ad v1_2 v3_1 _ (fun M13 => ?_) _ _
  refine G_iconst (v := 0) dX10_form_161 rfl ?_
  refine G_istore dX10_form_162 (by decide) (L' := [(5, .int 0), (0, .ref (ad 33)), (1, .int v1_2), (3, .int v3_1)]) rfl ?_
  refine G_sub [1, 2, 3, 0] rfl ?_
  refine w_MD_form_L164 X ad v1_2 v3_1 M13 _ (fun v5_6 => ?_) _ _
  refine G_iload_n dX10_form_197 2 rfl ?_
  refine G_jp (fun kq => ∀ (M14 : Mem), G X ad mi_MD_form (φIM) 253 [(0, .ref (ad 33)), (1, .int v1_2)] [] M14 (kq M14)) (fun M14 => ?_) (fun k_1 hk_1 => ?_)
  refine G_iconst (v := 0) dX10_form_253 rfl ?_
  refine G_istore_n 3 rfl dX10_form_254 (by decide) (L' := [(3, .int 0), (0, .ref (ad 33)), (1, .int v1_2)]) rfl ?_
  refine G_aload_n dX10_form_255 1 rfl ?_
  refine G_aload_n dX10_form_256 1 rfl ?_
  refine G_getI hclX10 (by decide) rfl 8 (by decide) rfl wd_904 dX10_form_257 ?_
  refine G_callV_IM (m_MD_nextNames _ M14) cal_MD_nextNames ⟨Nat.le_of_ble_eq_true rfl, Nat.le_of_ble_eq_true rfl⟩ wd_1158 hclX10 (by decide) rfl [.int (M14 33 8)] rfl rfl rfl (Nat.le_of_ble_eq_true rfl) dX10_form_260 (fun r_2 M15 => ?_)
  refine G_istore_n 2 rfl dX10_form_263 (by decide) (L' := [(2, .int r_2), (3, .int 0), (0, .ref (ad 33)), (1, .int v1_2)]) rfl ?_
  refine G_goto 33 dX10_form_264 (by decide) ?_
  refine G_sub [2, 3, 0, 1] rfl ?_
  exact hag (r_2, 0, M15)
  refine G_jp (fun kq => G X ad mi_MD_form (φIM) 224 [(0, .ref (ad 33)), (1, .int v1_2)] [] M13 (kq)) ?_ (fun k_2 hk_2 => ?_)
  refine G_iconst (v := 0) dX10_form_224 rfl ?_
  refine G_istore dX10_form_225 (by decide) (L' := [(6, .int 0), (0, .ref (ad 33)), (1, .int v1_2)]) rfl ?_
  refine G_sub [1, 2, 0] rfl ?_
  refine w_MD_form_L227 X ad v1_2 _ (fun M18 => ?_) _ _
  refine G_sub [0, 1] rfl ?_
  exact hk_1 M18
  refine G_if_ne 224 dX10_form_198 (by decide) (fun _ => ?_) (fun _ => ?_)
  refine G_iload dX10_form_201 3 rfl ?_
  refine G_iload_n dX10_form_203 1 rfl ?_
  refine G_icmp_ge 253 dX10_form_204 (by decide) (fun _ => ?_) (fun _ => ?_)
  refine G_sub [0, 1] rfl ?_
  exact hk_1 M13
  refine G_aload_n dX10_form_207 0 rfl ?_
  refine G_getR hclX10 (by decide) rfl 28 (by decide) rfl wd_924 dX10_form_208 ?_
  refine G_iload dX10_form_211 3 rfl ?_
  refine G_iald (by decide) rfl dX10_form_213 ?_
  refine G_aload_n dX10_form_214 0 rfl ?_
  refine G_getR hclX10 (by decide) rfl 27 (by decide) rfl wd_923 dX10_form_215 ?_
  refine G_iload dX10_form_218 3 rfl ?_
  refine G_iald (by decide) rfl dX10_form_220 ?_
  refine G_icmp_ge 253 dX10_form_221 (by decide) (fun _ => ?_) (fun _ => ?_)
  refine G_sub [0, 1] rfl ?_
  exact hk_1 M13
  refine G_sub [0, 1] rfl ?_
  exact hk_2
  refine G_sub [0, 1] rfl ?_
  exact hk_2

set_option maxRecDepth 100000 in
set_option maxHeartbeats 4000000 in
theorem w_MD_form_L273 (X : Cx) (ad : Nat → Nat) (v1_9 : Int32) (M19 : Mem) (kx : Int64 → Option (Int32 × Mem)) (hkx : ∀ (e4 : Int64), G X ad mi_MD_form (φIM) 306 [(4, .long e4)] [] M19 (kx e4)) : ∀ (n : Nat) (s : Int64 × Int32), G X ad mi_MD_form (φIM) 273 [(0, .ref (ad 33)), (1, .int v1_9), (4, .long s.1), (6, .int s.2)] [] M19 (LOOP (fun aq sq => MD_form_L273 v1_9 M19 kx aq sq.1 sq.2) n s) := by
  refine LOOP_rule (fun (s : Int64 × Int32) o => G X ad mi_MD_form (φIM) 273 [(0, .ref (ad 33)), (1, .int v1_9), (4, .long s.1), (6, .int s.2)] [] M19 o) (fun _ => G_none) (fun ag hag s => ?_)
  obtain ⟨v4_8, v6_4⟩ := s
  show G X ad mi_MD_form (φIM) 273 [(0, .ref (ad 33)), (1, .int v1_9), (4, .long v4_8), (6, .int v6_4)] [] M19 (MD_form_L273 v1_9 M19 kx ag v4_8 v6_4)
  unfold MD_form_L273
  refine G_iload dX10_form_273 3 rfl ?_
  refine G_iload_n dX10_form_275 1 rfl ?_
  refine G_icmp_ge 306 dX10_form_276 (by decide) (fun _ => ?_) (fun _ => ?_)
  refine G_sub [2] rfl ?_
  exact hkx v4_8
  refine G_ldc2 wd_1174 dX10_form_279 ?_
  refine G_lload dX10_form_282 2 rfl ?_
  refine G_lmul dX10_form_284 ?_
  refine G_aload_n dX10_form_285 0 rfl ?_
  refine G_getR hclX10 (by decide) rfl 27 (by decide) rfl wd_923 dX10_form_286 ?_
  refine G_iload dX10_form_289 3 rfl ?_
  refine G_iald (by decide) rfl dX10_form_291 ?_
  refine G_i2l dX10_form_292 ?_
  refine G_ladd dX10_form_293 ?_
  refine G_ldc2 wd_1175 dX10_form_294 ?_
  refine G_lrem dX10_form_297 (by decide) ?_
  refine G_nmL (fun v4_9 => ?_)
  refine G_lstore dX10_form_298 (by decide) (L' := [(4, .long v4_9), (0, .ref (ad 33)), (1, .int v1_9), (6, .int v6_4)]) rfl ?_
  refine G_iinc (v6_4 + 1) dX10_form_300 3 rfl rfl (by decide) (L' := [(6, .int (v6_4 + 1)), (4, .long v4_9), (0, .ref (ad 33)), (1, .int v1_9)]) rfl ?_
  refine G_goto 273 dX10_form_303 (by decide) ?_
  refine G_sub [2, 3, 1, 0] rfl ?_
  exact hag (v4_9, v6_4 + 1)

set_option maxRecDepth 100000 in
set_option maxHeartbeats 4000000 in
theorem m_MD_form (M : Mem) : MC mi_MD_form (φIM) (fun ad => [.ref (ad 33)]) M (MD_form M) := by
  refine MC_of rfl (by decide +kernel) (fun ad => [(0, .ref (ad 33))]) (fun _ => rfl) (fun _ => Nat.le_of_ble_eq_true rfl) (fun X ad => ?_)
  show G X ad mi_MD_form (φIM) 0 [(0, .ref (ad 33))] [] M _
  unfold MD_form
  refine G_aload_n dX10_form_0 0 rfl ?_
  refine G_aload_n dX10_form_1 0 rfl ?_
  refine G_getI hclX10 (by decide) rfl 10 (by decide) rfl wd_906 dX10_form_2 ?_
  refine G_callV_V (m_MD_findTies _ M) cal_MD_findTies ⟨Nat.le_of_ble_eq_true rfl, Nat.le_of_ble_eq_true rfl⟩ wd_1076 hclX10 (by decide) rfl [.int (M 33 10)] rfl rfl rfl (Nat.le_of_ble_eq_true rfl) dX10_form_5 (fun M1 => ?_)
  refine G_aload_n dX10_form_8 0 rfl ?_
  refine G_getI hclX10 (by decide) rfl 8 (by decide) rfl wd_904 dX10_form_9 ?_
  refine G_iconst (v := 3) dX10_form_12 rfl ?_
  refine G_aload_n dX10_form_13 0 rfl ?_
  refine G_getI hclX10 (by decide) rfl 8 (by decide) rfl wd_904 dX10_form_14 ?_
  refine G_imul dX10_form_17 ?_
  refine G_aload_n dX10_form_18 0 rfl ?_
  refine G_getI hclX10 (by decide) rfl 8 (by decide) rfl wd_904 dX10_form_19 ?_
  refine G_imul dX10_form_22 ?_
  refine G_iadd dX10_form_23 ?_
  refine G_nmI (fun v1_1 => ?_)
  refine G_istore_n 1 rfl dX10_form_24 (by decide) (L' := [(1, .int v1_1), (0, .ref (ad 33))]) rfl ?_
  refine G_aload_n dX10_form_25 1 rfl ?_
  refine G_callV_V (m_MD_firstNames M1) cal_MD_firstNames ⟨Nat.le_of_ble_eq_true rfl, Nat.le_of_ble_eq_true rfl⟩ wd_1150 hclX10 (by decide) rfl [] rfl rfl rfl (Nat.le_of_ble_eq_true rfl) dX10_form_26 (fun M2 => ?_)
  refine G_iconst (v := 1) dX10_form_29 rfl ?_
  refine G_istore_n 2 rfl dX10_form_30 (by decide) (L' := [(2, .int 1), (1, .int v1_1), (0, .ref (ad 33))]) rfl ?_
  refine G_iconst (v := 1) dX10_form_31 rfl ?_
  refine G_istore_n 3 rfl dX10_form_32 (by decide) (L' := [(3, .int 1), (2, .int 1), (1, .int v1_1), (0, .ref (ad 33))]) rfl ?_
  refine G_sub [3, 2, 1, 0] rfl ?_
  refine w_MD_form_L33 X ad v1_1 _ (fun M19 => ?_) _ _
  refine G_lconst (v := 0) dX10_form_267 rfl ?_
  refine G_lstore dX10_form_268 (by decide) (L' := [(4, .long 0), (0, .ref (ad 33)), (1, .int v1_1)]) rfl ?_
  refine G_iconst (v := 0) dX10_form_270 rfl ?_
  refine G_istore dX10_form_271 (by decide) (L' := [(6, .int 0), (4, .long 0), (0, .ref (ad 33)), (1, .int v1_1)]) rfl ?_
  refine G_sub [2, 3, 1, 0] rfl ?_
  refine w_MD_form_L273 X ad v1_1 M19 _ (fun v4_10 => ?_) _ _
  refine G_lload dX10_form_306 0 rfl ?_
  refine G_l2i dX10_form_308 ?_
  exact G_ireturn rfl rfl dX10_form_309 rfl

set_option maxRecDepth 100000 in
set_option maxHeartbeats 4000000 in
theorem w_MD_firstParting_L2 (X : Cx) (ad : Nat → Nat) (kx : Mem → Option Mem) (hkx : ∀ (Me : Mem), G X ad mi_MD_firstParting (φV) 23 [] [] Me (kx Me)) : ∀ (n : Nat) (s : Int32 × Mem), G X ad mi_MD_firstParting (φV) 2 [(0, .ref (ad 33)), (1, .int s.1)] [] s.2 (LOOP (fun aq sq => MD_firstParting_L2 kx aq sq.1 sq.2) n s) := by
  refine LOOP_rule (fun (s : Int32 × Mem) o => G X ad mi_MD_firstParting (φV) 2 [(0, .ref (ad 33)), (1, .int s.1)] [] s.2 o) (fun _ => G_none) (fun ag hag s => ?_)
  obtain ⟨v1_1, M1⟩ := s
  show G X ad mi_MD_firstParting (φV) 2 [(0, .ref (ad 33)), (1, .int v1_1)] [] M1 (MD_firstParting_L2 kx ag v1_1 M1)
  unfold MD_firstParting_L2
  refine G_iload_n dX10_firstParting_2 1 rfl ?_
  refine G_aload_n dX10_firstParting_3 0 rfl ?_
  refine G_getI hclX10 (by decide) rfl 8 (by decide) rfl wd_904 dX10_firstParting_4 ?_
  refine G_icmp_ge 23 dX10_firstParting_7 (by decide) (fun _ => ?_) (fun _ => ?_)
  refine G_sub [] rfl ?_
  exact hkx M1
  refine G_aload_n dX10_firstParting_10 0 rfl ?_
  refine G_getR hclX10 (by decide) rfl 22 (by decide) rfl wd_918 dX10_firstParting_11 ?_
  refine G_iload_n dX10_firstParting_14 1 rfl ?_
  refine G_iconst (v := 0) dX10_firstParting_15 rfl ?_
  refine G_iast (by decide) rfl dX10_firstParting_16 (fun M2 => ?_)
  refine G_iinc (v1_1 + 1) dX10_firstParting_17 1 rfl rfl (by decide) (L' := [(1, .int (v1_1 + 1)), (0, .ref (ad 33))]) rfl ?_
  refine G_goto 2 dX10_firstParting_20 (by decide) ?_
  refine G_sub [1, 0] rfl ?_
  exact hag (v1_1 + 1, M2)

set_option maxRecDepth 100000 in
set_option maxHeartbeats 4000000 in
theorem m_MD_firstParting (M : Mem) : MC mi_MD_firstParting (φV) (fun ad => [.ref (ad 33)]) M (MD_firstParting M) := by
  refine MC_of rfl (by decide +kernel) (fun ad => [(0, .ref (ad 33))]) (fun _ => rfl) (fun _ => Nat.le_of_ble_eq_true rfl) (fun X ad => ?_)
  show G X ad mi_MD_firstParting (φV) 0 [(0, .ref (ad 33))] [] M _
  unfold MD_firstParting
  refine G_iconst (v := 0) dX10_firstParting_0 rfl ?_
  refine G_istore_n 1 rfl dX10_firstParting_1 (by decide) (L' := [(1, .int 0), (0, .ref (ad 33))]) rfl ?_
  refine G_sub [1, 0] rfl ?_
  refine w_MD_firstParting_L2 X ad _ (fun M3 => ?_) _ _
  exact G_return rfl rfl dX10_firstParting_23 rfl

set_option maxRecDepth 100000 in
set_option maxHeartbeats 4000000 in
theorem w_MD_nextParting_L15 (X : Cx) (ad : Nat → Nat) (v1_3 : Int32) (M : Mem) (kx : Int32 → Option (Int32 × Mem)) (hkx : ∀ (e2 : Int32), G X ad mi_MD_nextParting (φIM) 51 [(0, .ref (ad 33)), (1, .int v1_3), (2, .int e2)] [] M (kx e2)) : ∀ (n : Nat) (s : Int32 × Int32), G X ad mi_MD_nextParting (φIM) 15 [(0, .ref (ad 33)), (1, .int v1_3), (2, .int s.1), (3, .int s.2)] [] M (LOOP (fun aq sq => MD_nextParting_L15 v1_3 M kx aq sq.1 sq.2) n s) := by
  refine LOOP_rule (fun (s : Int32 × Int32) o => G X ad mi_MD_nextParting (φIM) 15 [(0, .ref (ad 33)), (1, .int v1_3), (2, .int s.1), (3, .int s.2)] [] M o) (fun _ => G_none) (fun ag hag s => ?_)
  obtain ⟨v2_1, v3_1⟩ := s
  show G X ad mi_MD_nextParting (φIM) 15 [(0, .ref (ad 33)), (1, .int v1_3), (2, .int v2_1), (3, .int v3_1)] [] M (MD_nextParting_L15 v1_3 M kx ag v2_1 v3_1)
  unfold MD_nextParting_L15
  refine G_iload_n dX10_nextParting_15 3 rfl ?_
  refine G_iload_n dX10_nextParting_16 1 rfl ?_
  refine G_icmp_ge 51 dX10_nextParting_17 (by decide) (fun _ => ?_) (fun _ => ?_)
  refine G_sub [0, 1, 2] rfl ?_
  exact hkx v2_1
  refine G_aload_n dX10_nextParting_20 0 rfl ?_
  refine G_getR hclX10 (by decide) rfl 22 (by decide) rfl wd_918 dX10_nextParting_21 ?_
  refine G_iload_n dX10_nextParting_24 3 rfl ?_
  refine G_iald (by decide) rfl dX10_nextParting_25 ?_
  refine G_iconst (v := 1) dX10_nextParting_26 rfl ?_
  refine G_iadd dX10_nextParting_27 ?_
  refine G_iload_n dX10_nextParting_28 2 rfl ?_
  refine G_icmp_le 43 dX10_nextParting_29 (by decide) (fun _ => ?_) (fun _ => ?_)
  refine G_iload_n dX10_nextParting_43 2 rfl ?_
  refine G_istore_n 2 rfl dX10_nextParting_44 (by decide) (L' := [(2, .int v2_1), (0, .ref (ad 33)), (1, .int v1_3), (3, .int v3_1)]) rfl ?_
  refine G_iinc (v3_1 + 1) dX10_nextParting_45 3 rfl rfl (by decide) (L' := [(3, .int (v3_1 + 1)), (2, .int v2_1), (0, .ref (ad 33)), (1, .int v1_3)]) rfl ?_
  refine G_goto 15 dX10_nextParting_48 (by decide) ?_
  refine G_sub [2, 3, 1, 0] rfl ?_
  exact hag (v2_1, v3_1 + 1)
  refine G_aload_n dX10_nextParting_32 0 rfl ?_
  refine G_getR hclX10 (by decide) rfl 22 (by decide) rfl wd_918 dX10_nextParting_33 ?_
  refine G_iload_n dX10_nextParting_36 3 rfl ?_
  refine G_iald (by decide) rfl dX10_nextParting_37 ?_
  refine G_iconst (v := 1) dX10_nextParting_38 rfl ?_
  refine G_iadd dX10_nextParting_39 ?_
  refine G_goto 44 dX10_nextParting_40 (by decide) ?_
  refine G_nmI (fun v2_2 => ?_)
  refine G_istore_n 2 rfl dX10_nextParting_44 (by decide) (L' := [(2, .int v2_2), (0, .ref (ad 33)), (1, .int v1_3), (3, .int v3_1)]) rfl ?_
  refine G_iinc (v3_1 + 1) dX10_nextParting_45 3 rfl rfl (by decide) (L' := [(3, .int (v3_1 + 1)), (2, .int v2_2), (0, .ref (ad 33)), (1, .int v1_3)]) rfl ?_
  refine G_goto 15 dX10_nextParting_48 (by decide) ?_
  refine G_sub [2, 3, 1, 0] rfl ?_
  exact hag (v2_2, v3_1 + 1)

set_option maxRecDepth 100000 in
set_option maxHeartbeats 4000000 in
theorem w_MD_nextParting_L78 (X : Cx) (ad : Nat → Nat) (kx : Mem → Option (Int32 × Mem)) (hkx : ∀ (Me : Mem), G X ad mi_MD_nextParting (φIM) 99 [] [] Me (kx Me)) : ∀ (n : Nat) (s : Int32 × Mem), G X ad mi_MD_nextParting (φIM) 78 [(0, .ref (ad 33)), (3, .int s.1)] [] s.2 (LOOP (fun aq sq => MD_nextParting_L78 kx aq sq.1 sq.2) n s) := by
  refine LOOP_rule (fun (s : Int32 × Mem) o => G X ad mi_MD_nextParting (φIM) 78 [(0, .ref (ad 33)), (3, .int s.1)] [] s.2 o) (fun _ => G_none) (fun ag hag s => ?_)
  obtain ⟨v3_3, M2⟩ := s
  show G X ad mi_MD_nextParting (φIM) 78 [(0, .ref (ad 33)), (3, .int v3_3)] [] M2 (MD_nextParting_L78 kx ag v3_3 M2)
  unfold MD_nextParting_L78
  refine G_iload_n dX10_nextParting_78 1 rfl ?_
  refine G_aload_n dX10_nextParting_79 0 rfl ?_
  refine G_getI hclX10 (by decide) rfl 8 (by decide) rfl wd_904 dX10_nextParting_80 ?_
  refine G_icmp_ge 99 dX10_nextParting_83 (by decide) (fun _ => ?_) (fun _ => ?_)
  refine G_sub [] rfl ?_
  exact hkx M2
  refine G_aload_n dX10_nextParting_86 0 rfl ?_
  refine G_getR hclX10 (by decide) rfl 22 (by decide) rfl wd_918 dX10_nextParting_87 ?_
  refine G_iload_n dX10_nextParting_90 1 rfl ?_
  refine G_iconst (v := 0) dX10_nextParting_91 rfl ?_
  refine G_iast (by decide) rfl dX10_nextParting_92 (fun M3 => ?_)
  refine G_iinc (v3_3 + 1) dX10_nextParting_93 1 rfl rfl (by decide) (L' := [(3, .int (v3_3 + 1)), (0, .ref (ad 33))]) rfl ?_
  refine G_goto 78 dX10_nextParting_96 (by decide) ?_
  refine G_sub [1, 0] rfl ?_
  exact hag (v3_3 + 1, M3)

set_option maxRecDepth 100000 in
set_option maxHeartbeats 4000000 in
theorem w_MD_nextParting_L7 (X : Cx) (ad : Nat → Nat) (M : Mem) (kx : Option (Int32 × Mem)) (hkx : G X ad mi_MD_nextParting (φIM) 107 [] [] M (kx)) : ∀ (n : Nat) (s : Int32), G X ad mi_MD_nextParting (φIM) 7 [(0, .ref (ad 33)), (1, .int s)] [] M (LOOP (fun aq sq => MD_nextParting_L7 M kx aq sq) n s) := by
  refine LOOP_rule (fun (s : Int32) o => G X ad mi_MD_nextParting (φIM) 7 [(0, .ref (ad 33)), (1, .int s)] [] M o) (fun _ => G_none) (fun ag hag v1_2 => ?_)
  show G X ad mi_MD_nextParting (φIM) 7 [(0, .ref (ad 33)), (1, .int v1_2)] [] M (MD_nextParting_L7 M kx ag v1_2)
  unfold MD_nextParting_L7
  refine G_iload_n dX10_nextParting_7 1 rfl ?_
  refine G_if_le 107 dX10_nextParting_8 (by decide) (fun _ => ?_) (fun _ => ?_)
  refine G_sub [] rfl ?_
  exact hkx
  refine G_iconst (v := 0) dX10_nextParting_11 rfl ?_
  refine G_istore_n 2 rfl dX10_nextParting_12 (by decide) (L' := [(2, .int 0), (0, .ref (ad 33)), (1, .int v1_2)]) rfl ?_
  refine G_iconst (v := 0) dX10_nextParting_13 rfl ?_
  refine G_istore_n 3 rfl dX10_nextParting_14 (by decide) (L' := [(3, .int 0), (2, .int 0), (0, .ref (ad 33)), (1, .int v1_2)]) rfl ?_
  refine G_sub [2, 3, 1, 0] rfl ?_
  refine w_MD_nextParting_L15 X ad v1_2 M _ (fun v2_3 => ?_) _ _
  refine G_aload_n dX10_nextParting_51 0 rfl ?_
  refine G_getR hclX10 (by decide) rfl 22 (by decide) rfl wd_918 dX10_nextParting_52 ?_
  refine G_iload_n dX10_nextParting_55 1 rfl ?_
  refine G_iald (by decide) rfl dX10_nextParting_56 ?_
  refine G_iload_n dX10_nextParting_57 2 rfl ?_
  refine G_icmp_lt 64 dX10_nextParting_58 (by decide) (fun _ => ?_) (fun _ => ?_)
  refine G_aload_n dX10_nextParting_64 0 rfl ?_
  refine G_getR hclX10 (by decide) rfl 22 (by decide) rfl wd_918 dX10_nextParting_65 ?_
  refine G_iload_n dX10_nextParting_68 1 rfl ?_
  refine G_dup2 dX10_nextParting_69 rfl rfl ?_
  refine G_iald (by decide) rfl dX10_nextParting_70 ?_
  refine G_iconst (v := 1) dX10_nextParting_71 rfl ?_
  refine G_iadd dX10_nextParting_72 ?_
  refine G_iast (by decide) rfl dX10_nextParting_73 (fun M1 => ?_)
  refine G_iload_n dX10_nextParting_74 1 rfl ?_
  refine G_iconst (v := 1) dX10_nextParting_75 rfl ?_
  refine G_iadd dX10_nextParting_76 ?_
  refine G_nmI (fun v3_2 => ?_)
  refine G_istore_n 3 rfl dX10_nextParting_77 (by decide) (L' := [(3, .int v3_2), (0, .ref (ad 33)), (1, .int v1_2), (2, .int v2_3)]) rfl ?_
  refine G_sub [1, 0] rfl ?_
  refine w_MD_nextParting_L78 X ad _ (fun M4 => ?_) _ _
  refine G_iconst (v := 1) dX10_nextParting_99 rfl ?_
  exact G_zreturn rfl rfl dX10_nextParting_100 rfl
  refine G_goto 101 dX10_nextParting_61 (by decide) ?_
  refine G_iinc (v1_2 + (-1)) dX10_nextParting_101 1 rfl rfl (by decide) (L' := [(1, .int (v1_2 + (-1))), (0, .ref (ad 33)), (2, .int v2_3)]) rfl ?_
  refine G_goto 7 dX10_nextParting_104 (by decide) ?_
  refine G_sub [1, 0] rfl ?_
  exact hag (v1_2 + (-1))

set_option maxRecDepth 100000 in
set_option maxHeartbeats 4000000 in
theorem m_MD_nextParting (M : Mem) : MC mi_MD_nextParting (φIM) (fun ad => [.ref (ad 33)]) M (MD_nextParting M) := by
  refine MC_of rfl (by decide +kernel) (fun ad => [(0, .ref (ad 33))]) (fun _ => rfl) (fun _ => Nat.le_of_ble_eq_true rfl) (fun X ad => ?_)
  show G X ad mi_MD_nextParting (φIM) 0 [(0, .ref (ad 33))] [] M _
  unfold MD_nextParting
  refine G_aload_n dX10_nextParting_0 0 rfl ?_
  refine G_getI hclX10 (by decide) rfl 8 (by decide) rfl wd_904 dX10_nextParting_1 ?_
  refine G_iconst (v := 1) dX10_nextParting_4 rfl ?_
  refine G_isub dX10_nextParting_5 ?_
  refine G_nmI (fun v1_1 => ?_)
  refine G_istore_n 1 rfl dX10_nextParting_6 (by decide) (L' := [(1, .int v1_1), (0, .ref (ad 33))]) rfl ?_
  refine G_sub [1, 0] rfl ?_
  refine w_MD_nextParting_L7 X ad M _ ?_ _ _
  refine G_iconst (v := 0) dX10_nextParting_107 rfl ?_
  exact G_zreturn rfl rfl dX10_nextParting_108 rfl

set_option maxRecDepth 100000 in
set_option maxHeartbeats 4000000 in
theorem w_MD_parts_L4 (X : Cx) (ad : Nat → Nat) (M : Mem) (kx : Int32 → Option Int32) (hkx : ∀ (e1 : Int32), G X ad mi_MD_parts (φI M) 43 [(1, .int e1)] [] M (kx e1)) : ∀ (n : Nat) (s : Int32 × Int32), G X ad mi_MD_parts (φI M) 4 [(0, .ref (ad 33)), (1, .int s.1), (2, .int s.2)] [] M (LOOP (fun aq sq => MD_parts_L4 M kx aq sq.1 sq.2) n s) := by
  refine LOOP_rule (fun (s : Int32 × Int32) o => G X ad mi_MD_parts (φI M) 4 [(0, .ref (ad 33)), (1, .int s.1), (2, .int s.2)] [] M o) (fun _ => G_none) (fun ag hag s => ?_)
  obtain ⟨v1_1, v2_1⟩ := s
  show G X ad mi_MD_parts (φI M) 4 [(0, .ref (ad 33)), (1, .int v1_1), (2, .int v2_1)] [] M (MD_parts_L4 M kx ag v1_1 v2_1)
  unfold MD_parts_L4
  refine G_iload_n dX10_parts_4 2 rfl ?_
  refine G_aload_n dX10_parts_5 0 rfl ?_
  refine G_getI hclX10 (by decide) rfl 8 (by decide) rfl wd_904 dX10_parts_6 ?_
  refine G_icmp_ge 43 dX10_parts_9 (by decide) (fun _ => ?_) (fun _ => ?_)
  refine G_sub [1] rfl ?_
  exact hkx v1_1
  refine G_aload_n dX10_parts_12 0 rfl ?_
  refine G_getR hclX10 (by decide) rfl 22 (by decide) rfl wd_918 dX10_parts_13 ?_
  refine G_iload_n dX10_parts_16 2 rfl ?_
  refine G_iald (by decide) rfl dX10_parts_17 ?_
  refine G_iconst (v := 1) dX10_parts_18 rfl ?_
  refine G_iadd dX10_parts_19 ?_
  refine G_iload_n dX10_parts_20 1 rfl ?_
  refine G_icmp_le 35 dX10_parts_21 (by decide) (fun _ => ?_) (fun _ => ?_)
  refine G_iload_n dX10_parts_35 1 rfl ?_
  refine G_istore_n 1 rfl dX10_parts_36 (by decide) (L' := [(1, .int v1_1), (0, .ref (ad 33)), (2, .int v2_1)]) rfl ?_
  refine G_iinc (v2_1 + 1) dX10_parts_37 2 rfl rfl (by decide) (L' := [(2, .int (v2_1 + 1)), (1, .int v1_1), (0, .ref (ad 33))]) rfl ?_
  refine G_goto 4 dX10_parts_40 (by decide) ?_
  refine G_sub [2, 1, 0] rfl ?_
  exact hag (v1_1, v2_1 + 1)
  refine G_aload_n dX10_parts_24 0 rfl ?_
  refine G_getR hclX10 (by decide) rfl 22 (by decide) rfl wd_918 dX10_parts_25 ?_
  refine G_iload_n dX10_parts_28 2 rfl ?_
  refine G_iald (by decide) rfl dX10_parts_29 ?_
  refine G_iconst (v := 1) dX10_parts_30 rfl ?_
  refine G_iadd dX10_parts_31 ?_
  refine G_goto 36 dX10_parts_32 (by decide) ?_
  refine G_nmI (fun v1_2 => ?_)
  refine G_istore_n 1 rfl dX10_parts_36 (by decide) (L' := [(1, .int v1_2), (0, .ref (ad 33)), (2, .int v2_1)]) rfl ?_
  refine G_iinc (v2_1 + 1) dX10_parts_37 2 rfl rfl (by decide) (L' := [(2, .int (v2_1 + 1)), (1, .int v1_2), (0, .ref (ad 33))]) rfl ?_
  refine G_goto 4 dX10_parts_40 (by decide) ?_
  refine G_sub [2, 1, 0] rfl ?_
  exact hag (v1_2, v2_1 + 1)

set_option maxRecDepth 100000 in
set_option maxHeartbeats 4000000 in
theorem m_MD_parts (M : Mem) : MC mi_MD_parts (φI M) (fun ad => [.ref (ad 33)]) M (MD_parts M) := by
  refine MC_of rfl (by decide +kernel) (fun ad => [(0, .ref (ad 33))]) (fun _ => rfl) (fun _ => Nat.le_of_ble_eq_true rfl) (fun X ad => ?_)
  show G X ad mi_MD_parts (φI M) 0 [(0, .ref (ad 33))] [] M _
  unfold MD_parts
  refine G_iconst (v := 0) dX10_parts_0 rfl ?_
  refine G_istore_n 1 rfl dX10_parts_1 (by decide) (L' := [(1, .int 0), (0, .ref (ad 33))]) rfl ?_
  refine G_iconst (v := 0) dX10_parts_2 rfl ?_
  refine G_istore_n 2 rfl dX10_parts_3 (by decide) (L' := [(2, .int 0), (1, .int 0), (0, .ref (ad 33))]) rfl ?_
  refine G_sub [2, 1, 0] rfl ?_
  refine w_MD_parts_L4 X ad M _ (fun v1_3 => ?_) _ _
  refine G_iload_n dX10_parts_43 0 rfl ?_
  exact G_ireturn rfl rfl dX10_parts_44 rfl

set_option maxRecDepth 100000 in
set_option maxHeartbeats 4000000 in
theorem w_MD_next_L39 (X : Cx) (ad : Nat → Nat) (v1_1 : Int32) (v2_1 : Int32) (kx : Mem → Option (Int32 × Mem)) (hkx : ∀ (Me : Mem), G X ad mi_MD_next (φIM) 80 [] [] Me (kx Me)) : ∀ (n : Nat) (s : Int32 × Mem), G X ad mi_MD_next (φIM) 39 [(0, .ref (ad 33)), (1, .int v1_1), (2, .int v2_1), (3, .int s.1)] [] s.2 (LOOP (fun aq sq => MD_next_L39 v1_1 v2_1 kx aq sq.1 sq.2) n s) := by
  refine LOOP_rule (fun (s : Int32 × Mem) o => G X ad mi_MD_next (φIM) 39 [(0, .ref (ad 33)), (1, .int v1_1), (2, .int v2_1), (3, .int s.1)] [] s.2 o) (fun _ => G_none) (fun ag hag s => ?_)
  obtain ⟨v3_1, M4⟩ := s
  show G X ad mi_MD_next (φIM) 39 [(0, .ref (ad 33)), (1, .int v1_1), (2, .int v2_1), (3, .int v3_1)] [] M4 (MD_next_L39 v1_1 v2_1 kx ag v3_1 M4)
  unfold MD_next_L39
  refine G_iload_n dX10_next_39 3 rfl ?_
  refine G_if_eq 80 dX10_next_40 (by decide) (fun _ => ?_) (fun _ => ?_)
  refine G_sub [] rfl ?_
  exact hkx M4
  refine G_aload_n dX10_next_43 0 rfl ?_
  refine G_aload_n dX10_next_44 0 rfl ?_
  refine G_getR hclX10 (by decide) rfl 22 (by decide) rfl wd_918 dX10_next_45 ?_
  refine G_callV_IM (m_MD_number 50 isA_50 M4) cal_MD_number ⟨Nat.le_of_ble_eq_true rfl, Nat.le_of_ble_eq_true rfl⟩ wd_1138 hclX10 (by decide) rfl [.ref (ad 50)] rfl rfl rfl (Nat.le_of_ble_eq_true rfl) dX10_next_48 (fun r_3 M5 => ?_)
  refine G_istore dX10_next_51 (by decide) (L' := [(4, .int r_3), (0, .ref (ad 33)), (1, .int v1_1), (2, .int v2_1), (3, .int v3_1)]) rfl ?_
  refine G_iload dX10_next_53 0 rfl ?_
  refine G_iload_n dX10_next_55 3 rfl ?_
  refine G_jp (fun kq => G X ad mi_MD_next (φIM) 72 [(0, .ref (ad 33)), (1, .int v1_1), (2, .int v2_1)] [] M5 (kq)) ?_ (fun k_1 hk_1 => ?_)
  refine G_aload_n dX10_next_72 0 rfl ?_
  refine G_callV_IM (m_MD_nextParting M5) cal_MD_nextParting ⟨Nat.le_of_ble_eq_true rfl, Nat.le_of_ble_eq_true rfl⟩ wd_1184 hclX10 (by decide) rfl [] rfl rfl rfl (Nat.le_of_ble_eq_true rfl) dX10_next_73 (fun r_4 M6 => ?_)
  refine G_istore_n 3 rfl dX10_next_76 (by decide) (L' := [(3, .int r_4), (0, .ref (ad 33)), (1, .int v1_1), (2, .int v2_1)]) rfl ?_
  refine G_goto 39 dX10_next_77 (by decide) ?_
  refine G_sub [1, 2, 3, 0] rfl ?_
  exact hag (r_4, M6)
  refine G_icmp_le 72 dX10_next_56 (by decide) (fun _ => ?_) (fun _ => ?_)
  refine G_sub [1, 2, 3] rfl ?_
  exact hk_1
  refine G_aload_n dX10_next_59 1 rfl ?_
  refine G_iload_n dX10_next_60 2 rfl ?_
  refine G_callV_I (m_MD_judged _ M5) cal_MD_judged ⟨Nat.le_of_ble_eq_true rfl, Nat.le_of_ble_eq_true rfl⟩ wd_1107 hclX10 (by decide) rfl [.int v1_1] rfl rfl rfl (Nat.le_of_ble_eq_true rfl) dX10_next_61 (fun r_5 => ?_)
  refine G_bipush (v := -9) dX10_next_64 rfl ?_
  refine G_icmp_ne 72 dX10_next_66 (by decide) (fun _ => ?_) (fun _ => ?_)
  refine G_iload dX10_next_69 0 rfl ?_
  exact G_ireturn rfl rfl dX10_next_71 rfl
  refine G_sub [1, 2, 3] rfl ?_
  exact hk_1

set_option maxRecDepth 100000 in
set_option maxHeartbeats 4000000 in
theorem m_MD_next (v1 : Int32) (v2 : Int32) (M : Mem) : MC mi_MD_next (φIM) (fun ad => [.ref (ad 33), .int v1, .int v2]) M (MD_next v1 v2 M) := by
  refine MC_of rfl (by decide +kernel) (fun ad => [(0, .ref (ad 33)), (1, .int v1), (2, .int v2)]) (fun _ => rfl) (fun _ => Nat.le_of_ble_eq_true rfl) (fun X ad => ?_)
  show G X ad mi_MD_next (φIM) 0 [(0, .ref (ad 33)), (1, .int v1), (2, .int v2)] [] M _
  unfold MD_next
  refine G_iload_n dX10_next_0 1 rfl ?_
  refine G_callS_I (m_MD_isSameness _ M) cal_MD_isSameness ⟨Nat.le_of_ble_eq_true rfl, Nat.le_of_ble_eq_true rfl⟩ wd_1104 rfl rfl (Nat.le_of_ble_eq_true rfl) dX10_next_1 (fun r_1 => ?_)
  refine G_if_ne 13 dX10_next_4 (by decide) (fun _ => ?_) (fun _ => ?_)
  refine G_aload_n dX10_next_7 0 rfl ?_
  refine G_iconst (v := -1) dX10_next_8 rfl ?_
  refine G_callV_IM (m_MD_no _ M) cal_MD_no ⟨Nat.le_of_ble_eq_true rfl, Nat.le_of_ble_eq_true rfl⟩ wd_1008 hclX10 (by decide) rfl [.int (-1)] rfl rfl rfl (Nat.le_of_ble_eq_true rfl) dX10_next_9 (fun r_2 M1 => ?_)
  exact G_ireturn rfl rfl dX10_next_12 rfl
  refine G_iload_n dX10_next_13 2 rfl ?_
  refine G_iconst (v := -1) dX10_next_14 rfl ?_
  refine G_icmp_ge 25 dX10_next_15 (by decide) (fun _ => ?_) (fun _ => ?_)
  refine G_aload_n dX10_next_25 0 rfl ?_
  refine G_aload_n dX10_next_26 0 rfl ?_
  refine G_getI hclX10 (by decide) rfl 10 (by decide) rfl wd_906 dX10_next_27 ?_
  refine G_callV_V (m_MD_findTies _ M) cal_MD_findTies ⟨Nat.le_of_ble_eq_true rfl, Nat.le_of_ble_eq_true rfl⟩ wd_1076 hclX10 (by decide) rfl [.int (M 33 10)] rfl rfl rfl (Nat.le_of_ble_eq_true rfl) dX10_next_30 (fun M2 => ?_)
  refine G_aload_n dX10_next_33 0 rfl ?_
  refine G_callV_V (m_MD_firstParting M2) cal_MD_firstParting ⟨Nat.le_of_ble_eq_true rfl, Nat.le_of_ble_eq_true rfl⟩ wd_1180 hclX10 (by decide) rfl [] rfl rfl rfl (Nat.le_of_ble_eq_true rfl) dX10_next_34 (fun M3 => ?_)
  refine G_iconst (v := 1) dX10_next_37 rfl ?_
  refine G_istore_n 3 rfl dX10_next_38 (by decide) (L' := [(3, .int 1), (0, .ref (ad 33)), (1, .int v1), (2, .int v2)]) rfl ?_
  refine G_sub [1, 2, 3, 0] rfl ?_
  refine w_MD_next_L39 X ad v1 v2 _ (fun M7 => ?_) _ _
  refine G_bipush (v := -9) dX10_next_80 rfl ?_
  exact G_ireturn rfl rfl dX10_next_82 rfl
  refine G_aload_n dX10_next_18 0 rfl ?_
  refine G_bipush (v := -4) dX10_next_19 rfl ?_
  refine G_callV_IM (m_MD_no _ M) cal_MD_no ⟨Nat.le_of_ble_eq_true rfl, Nat.le_of_ble_eq_true rfl⟩ wd_1008 hclX10 (by decide) rfl [.int (-4)] rfl rfl rfl (Nat.le_of_ble_eq_true rfl) dX10_next_21 (fun r_6 M8 => ?_)
  exact G_ireturn rfl rfl dX10_next_24 rfl

set_option maxRecDepth 100000 in
set_option maxHeartbeats 4000000 in
theorem w_MD_all_L29 (X : Cx) (ad : Nat → Nat) (v1_1 : Int32) (kx : Int32 → Mem → Option (Int32 × Mem)) (hkx : ∀ (e2 : Int32) (Me : Mem), G X ad mi_MD_all (φIM) 59 [(2, .int e2)] [] Me (kx e2 Me)) : ∀ (n : Nat) (s : Int32 × Int32 × Mem), G X ad mi_MD_all (φIM) 29 [(0, .ref (ad 33)), (1, .int v1_1), (2, .int s.1), (3, .int s.2.1)] [] s.2.2 (LOOP (fun aq sq => MD_all_L29 v1_1 kx aq sq.1 sq.2.1 sq.2.2) n s) := by
  refine LOOP_rule (fun (s : Int32 × Int32 × Mem) o => G X ad mi_MD_all (φIM) 29 [(0, .ref (ad 33)), (1, .int v1_1), (2, .int s.1), (3, .int s.2.1)] [] s.2.2 o) (fun _ => G_none) (fun ag hag s => ?_)
  obtain ⟨v2_1, v3_1, M4⟩ := s
  show G X ad mi_MD_all (φIM) 29 [(0, .ref (ad 33)), (1, .int v1_1), (2, .int v2_1), (3, .int v3_1)] [] M4 (MD_all_L29 v1_1 kx ag v2_1 v3_1 M4)
  unfold MD_all_L29
  refine G_iload_n dX10_all_29 3 rfl ?_
  refine G_if_eq 59 dX10_all_30 (by decide) (fun _ => ?_) (fun _ => ?_)
  refine G_sub [2] rfl ?_
  exact hkx v2_1 M4
  refine G_iload_n dX10_all_33 2 rfl ?_
  refine G_aload_n dX10_all_34 0 rfl ?_
  refine G_iload_n dX10_all_35 1 rfl ?_
  refine G_callV_I (m_MD_judged _ M4) cal_MD_judged ⟨Nat.le_of_ble_eq_true rfl, Nat.le_of_ble_eq_true rfl⟩ wd_1107 hclX10 (by decide) rfl [.int v1_1] rfl rfl rfl (Nat.le_of_ble_eq_true rfl) dX10_all_36 (fun r_3 => ?_)
  refine G_bipush (v := -9) dX10_all_39 rfl ?_
  refine G_jp (fun kq => ∀ (s_1 : Int32), G X ad mi_MD_all (φIM) 49 [(0, .ref (ad 33)), (1, .int v1_1)] [.int s_1, .int v2_1] M4 (kq s_1)) (fun s_1 => ?_) (fun k_1 hk_1 => ?_)
  refine G_iadd dX10_all_49 ?_
  refine G_nmI (fun v2_2 => ?_)
  refine G_istore_n 2 rfl dX10_all_50 (by decide) (L' := [(2, .int v2_2), (0, .ref (ad 33)), (1, .int v1_1)]) rfl ?_
  refine G_aload_n dX10_all_51 1 rfl ?_
  refine G_callV_IM (m_MD_nextParting M4) cal_MD_nextParting ⟨Nat.le_of_ble_eq_true rfl, Nat.le_of_ble_eq_true rfl⟩ wd_1184 hclX10 (by decide) rfl [] rfl rfl rfl (Nat.le_of_ble_eq_true rfl) dX10_all_52 (fun r_4 M5 => ?_)
  refine G_istore_n 3 rfl dX10_all_55 (by decide) (L' := [(3, .int r_4), (2, .int v2_2), (0, .ref (ad 33)), (1, .int v1_1)]) rfl ?_
  refine G_goto 29 dX10_all_56 (by decide) ?_
  refine G_sub [2, 3, 1, 0] rfl ?_
  exact hag (v2_2, r_4, M5)
  refine G_icmp_ne 48 dX10_all_41 (by decide) (fun _ => ?_) (fun _ => ?_)
  refine G_iconst (v := 1) dX10_all_44 rfl ?_
  refine G_goto 49 dX10_all_45 (by decide) ?_
  refine G_sub [0, 1] rfl ?_
  exact hk_1 1
  refine G_iconst (v := 0) dX10_all_48 rfl ?_
  refine G_sub [0, 1] rfl ?_
  exact hk_1 0

set_option maxRecDepth 100000 in
set_option maxHeartbeats 4000000 in
theorem m_MD_all (v1 : Int32) (M : Mem) : MC mi_MD_all (φIM) (fun ad => [.ref (ad 33), .int v1]) M (MD_all v1 M) := by
  refine MC_of rfl (by decide +kernel) (fun ad => [(0, .ref (ad 33)), (1, .int v1)]) (fun _ => rfl) (fun _ => Nat.le_of_ble_eq_true rfl) (fun X ad => ?_)
  show G X ad mi_MD_all (φIM) 0 [(0, .ref (ad 33)), (1, .int v1)] [] M _
  unfold MD_all
  refine G_iload_n dX10_all_0 1 rfl ?_
  refine G_callS_I (m_MD_isSameness _ M) cal_MD_isSameness ⟨Nat.le_of_ble_eq_true rfl, Nat.le_of_ble_eq_true rfl⟩ wd_1104 rfl rfl (Nat.le_of_ble_eq_true rfl) dX10_all_1 (fun r_1 => ?_)
  refine G_if_ne 13 dX10_all_4 (by decide) (fun _ => ?_) (fun _ => ?_)
  refine G_aload_n dX10_all_7 0 rfl ?_
  refine G_iconst (v := -1) dX10_all_8 rfl ?_
  refine G_callV_IM (m_MD_no _ M) cal_MD_no ⟨Nat.le_of_ble_eq_true rfl, Nat.le_of_ble_eq_true rfl⟩ wd_1008 hclX10 (by decide) rfl [.int (-1)] rfl rfl rfl (Nat.le_of_ble_eq_true rfl) dX10_all_9 (fun r_2 M1 => ?_)
  exact G_ireturn rfl rfl dX10_all_12 rfl
  refine G_aload_n dX10_all_13 0 rfl ?_
  refine G_aload_n dX10_all_14 0 rfl ?_
  refine G_getI hclX10 (by decide) rfl 10 (by decide) rfl wd_906 dX10_all_15 ?_
  refine G_callV_V (m_MD_findTies _ M) cal_MD_findTies ⟨Nat.le_of_ble_eq_true rfl, Nat.le_of_ble_eq_true rfl⟩ wd_1076 hclX10 (by decide) rfl [.int (M 33 10)] rfl rfl rfl (Nat.le_of_ble_eq_true rfl) dX10_all_18 (fun M2 => ?_)
  refine G_aload_n dX10_all_21 0 rfl ?_
  refine G_callV_V (m_MD_firstParting M2) cal_MD_firstParting ⟨Nat.le_of_ble_eq_true rfl, Nat.le_of_ble_eq_true rfl⟩ wd_1180 hclX10 (by decide) rfl [] rfl rfl rfl (Nat.le_of_ble_eq_true rfl) dX10_all_22 (fun M3 => ?_)
  refine G_iconst (v := 0) dX10_all_25 rfl ?_
  refine G_istore_n 2 rfl dX10_all_26 (by decide) (L' := [(2, .int 0), (0, .ref (ad 33)), (1, .int v1)]) rfl ?_
  refine G_iconst (v := 1) dX10_all_27 rfl ?_
  refine G_istore_n 3 rfl dX10_all_28 (by decide) (L' := [(3, .int 1), (2, .int 0), (0, .ref (ad 33)), (1, .int v1)]) rfl ?_
  refine G_sub [2, 3, 1, 0] rfl ?_
  refine w_MD_all_L29 X ad v1 _ (fun v2_3 M6 => ?_) _ _
  refine G_iload_n dX10_all_59 0 rfl ?_
  exact G_ireturn rfl rfl dX10_all_60 rfl

set_option maxRecDepth 100000 in
set_option maxHeartbeats 4000000 in
theorem w_MD_join_L32 (X : Cx) (ad : Nat → Nat) (kx : Mem → Option (Int32 × Mem)) (hkx : ∀ (Me : Mem), G X ad mi_MD_join (φIM) 53 [(0, .ref (ad 33))] [] Me (kx Me)) : ∀ (n : Nat) (s : Int32 × Mem), G X ad mi_MD_join (φIM) 32 [(0, .ref (ad 33)), (3, .int s.1)] [] s.2 (LOOP (fun aq sq => MD_join_L32 kx aq sq.1 sq.2) n s) := by
  refine LOOP_rule (fun (s : Int32 × Mem) o => G X ad mi_MD_join (φIM) 32 [(0, .ref (ad 33)), (3, .int s.1)] [] s.2 o) (fun _ => G_none) (fun ag hag s => ?_)
  obtain ⟨v3_1, M5⟩ := s
  show G X ad mi_MD_join (φIM) 32 [(0, .ref (ad 33)), (3, .int v3_1)] [] M5 (MD_join_L32 kx ag v3_1 M5)
  unfold MD_join_L32
  refine G_iload_n dX10_join_32 1 rfl ?_
  refine G_aload_n dX10_join_33 0 rfl ?_
  refine G_getI hclX10 (by decide) rfl 8 (by decide) rfl wd_904 dX10_join_34 ?_
  refine G_icmp_ge 53 dX10_join_37 (by decide) (fun _ => ?_) (fun _ => ?_)
  refine G_sub [0] rfl ?_
  exact hkx M5
  refine G_aload_n dX10_join_40 0 rfl ?_
  refine G_getR hclX10 (by decide) rfl 24 (by decide) rfl wd_920 dX10_join_41 ?_
  refine G_iload_n dX10_join_44 1 rfl ?_
  refine G_iload_n dX10_join_45 1 rfl ?_
  refine G_iast (by decide) rfl dX10_join_46 (fun M6 => ?_)
  refine G_iinc (v3_1 + 1) dX10_join_47 1 rfl rfl (by decide) (L' := [(3, .int (v3_1 + 1)), (0, .ref (ad 33))]) rfl ?_
  refine G_goto 32 dX10_join_50 (by decide) ?_
  refine G_sub [1, 0] rfl ?_
  exact hag (v3_1 + 1, M6)

set_option maxRecDepth 100000 in
set_option maxHeartbeats 4000000 in
theorem w_MD_join_L78 (X : Cx) (ad : Nat → Nat) (v3_4 : Int32) (v4_2 : Int32) (kx : Mem → Option (Int32 × Mem)) (hkx : ∀ (Me : Mem), G X ad mi_MD_join (φIM) 158 [(0, .ref (ad 33)), (3, .int v3_4), (4, .int v4_2)] [] Me (kx Me)) : ∀ (n : Nat) (s : Int32 × Mem), G X ad mi_MD_join (φIM) 78 [(0, .ref (ad 33)), (3, .int v3_4), (4, .int v4_2), (5, .int s.1)] [] s.2 (LOOP (fun aq sq => MD_join_L78 v4_2 kx aq sq.1 sq.2) n s) := by
  refine LOOP_rule (fun (s : Int32 × Mem) o => G X ad mi_MD_join (φIM) 78 [(0, .ref (ad 33)), (3, .int v3_4), (4, .int v4_2), (5, .int s.1)] [] s.2 o) (fun _ => G_none) (fun ag hag s => ?_)
  obtain ⟨v5_1, M10⟩ := s
  show G X ad mi_MD_join (φIM) 78 [(0, .ref (ad 33)), (3, .int v3_4), (4, .int v4_2), (5, .int v5_1)] [] M10 (MD_join_L78 v4_2 kx ag v5_1 M10)
  unfold MD_join_L78
  refine G_iload dX10_join_78 3 rfl ?_
  refine G_aload_n dX10_join_80 0 rfl ?_
  refine G_getI hclX10 (by decide) rfl 8 (by decide) rfl wd_904 dX10_join_81 ?_
  refine G_icmp_ge 158 dX10_join_84 (by decide) (fun _ => ?_) (fun _ => ?_)
  refine G_sub [0, 1, 2] rfl ?_
  exact hkx M10
  refine G_aload_n dX10_join_87 0 rfl ?_
  refine G_getR hclX10 (by decide) rfl 22 (by decide) rfl wd_918 dX10_join_88 ?_
  refine G_iload dX10_join_91 2 rfl ?_
  refine G_iald (by decide) rfl dX10_join_93 ?_
  refine G_aload_n dX10_join_94 0 rfl ?_
  refine G_getR hclX10 (by decide) rfl 22 (by decide) rfl wd_918 dX10_join_95 ?_
  refine G_iload dX10_join_98 3 rfl ?_
  refine G_iald (by decide) rfl dX10_join_100 ?_
  refine G_jp (fun kq => G X ad mi_MD_join (φIM) 121 [(0, .ref (ad 33)), (3, .int v3_4), (4, .int v4_2), (5, .int v5_1)] [] M10 (kq)) ?_ (fun k_2 hk_2 => ?_)
  refine G_aload_n dX10_join_121 0 rfl ?_
  refine G_getR hclX10 (by decide) rfl 24 (by decide) rfl wd_920 dX10_join_122 ?_
  refine G_iload dX10_join_125 3 rfl ?_
  refine G_iald (by decide) rfl dX10_join_127 ?_
  refine G_aload_n dX10_join_128 0 rfl ?_
  refine G_getR hclX10 (by decide) rfl 24 (by decide) rfl wd_920 dX10_join_129 ?_
  refine G_iload dX10_join_132 2 rfl ?_
  refine G_iald (by decide) rfl dX10_join_134 ?_
  refine G_icmp_ge 152 dX10_join_135 (by decide) (fun _ => ?_) (fun _ => ?_)
  refine G_iinc (v5_1 + 1) dX10_join_152 3 rfl rfl (by decide) (L' := [(5, .int (v5_1 + 1)), (0, .ref (ad 33)), (3, .int v3_4), (4, .int v4_2)]) rfl ?_
  refine G_goto 78 dX10_join_155 (by decide) ?_
  refine G_sub [1, 2, 3, 0] rfl ?_
  exact hag (v5_1 + 1, M10)
  refine G_aload_n dX10_join_138 0 rfl ?_
  refine G_getR hclX10 (by decide) rfl 24 (by decide) rfl wd_920 dX10_join_139 ?_
  refine G_iload dX10_join_142 2 rfl ?_
  refine G_aload_n dX10_join_144 0 rfl ?_
  refine G_getR hclX10 (by decide) rfl 24 (by decide) rfl wd_920 dX10_join_145 ?_
  refine G_iload dX10_join_148 3 rfl ?_
  refine G_iald (by decide) rfl dX10_join_150 ?_
  refine G_iast (by decide) rfl dX10_join_151 (fun M11 => ?_)
  refine G_iinc (v5_1 + 1) dX10_join_152 3 rfl rfl (by decide) (L' := [(5, .int (v5_1 + 1)), (0, .ref (ad 33)), (3, .int v3_4), (4, .int v4_2)]) rfl ?_
  refine G_goto 78 dX10_join_155 (by decide) ?_
  refine G_sub [1, 2, 3, 0] rfl ?_
  exact hag (v5_1 + 1, M11)
  refine G_icmp_eq 121 dX10_join_101 (by decide) (fun _ => ?_) (fun _ => ?_)
  refine G_sub [0, 1, 2, 3] rfl ?_
  exact hk_2
  refine G_aload_n dX10_join_104 0 rfl ?_
  refine G_getR hclX10 (by decide) rfl 23 (by decide) rfl wd_919 dX10_join_105 ?_
  refine G_iload dX10_join_108 2 rfl ?_
  refine G_iald (by decide) rfl dX10_join_110 ?_
  refine G_aload_n dX10_join_111 0 rfl ?_
  refine G_getR hclX10 (by decide) rfl 23 (by decide) rfl wd_919 dX10_join_112 ?_
  refine G_iload dX10_join_115 3 rfl ?_
  refine G_iald (by decide) rfl dX10_join_117 ?_
  refine G_icmp_ne 152 dX10_join_118 (by decide) (fun _ => ?_) (fun _ => ?_)
  refine G_sub [0, 1, 2, 3] rfl ?_
  exact hk_2
  refine G_iinc (v5_1 + 1) dX10_join_152 3 rfl rfl (by decide) (L' := [(5, .int (v5_1 + 1)), (0, .ref (ad 33)), (3, .int v3_4), (4, .int v4_2)]) rfl ?_
  refine G_goto 78 dX10_join_155 (by decide) ?_
  refine G_sub [1, 2, 3, 0] rfl ?_
  exact hag (v5_1 + 1, M10)

set_option maxRecDepth 100000 in
set_option maxHeartbeats 4000000 in
theorem w_MD_join_L66 (X : Cx) (ad : Nat → Nat) (v3_3 : Int32) (kx : Mem → Option (Int32 × Mem)) (hkx : ∀ (Me : Mem), G X ad mi_MD_join (φIM) 164 [(0, .ref (ad 33)), (3, .int v3_3)] [] Me (kx Me)) : ∀ (n : Nat) (s : Int32 × Mem), G X ad mi_MD_join (φIM) 66 [(0, .ref (ad 33)), (3, .int v3_3), (4, .int s.1)] [] s.2 (LOOP (fun aq sq => MD_join_L66 kx aq sq.1 sq.2) n s) := by
  refine LOOP_rule (fun (s : Int32 × Mem) o => G X ad mi_MD_join (φIM) 66 [(0, .ref (ad 33)), (3, .int v3_3), (4, .int s.1)] [] s.2 o) (fun _ => G_none) (fun ag hag s => ?_)
  obtain ⟨v4_1, M9⟩ := s
  show G X ad mi_MD_join (φIM) 66 [(0, .ref (ad 33)), (3, .int v3_3), (4, .int v4_1)] [] M9 (MD_join_L66 kx ag v4_1 M9)
  unfold MD_join_L66
  refine G_iload dX10_join_66 2 rfl ?_
  refine G_aload_n dX10_join_68 0 rfl ?_
  refine G_getI hclX10 (by decide) rfl 8 (by decide) rfl wd_904 dX10_join_69 ?_
  refine G_icmp_ge 164 dX10_join_72 (by decide) (fun _ => ?_) (fun _ => ?_)
  refine G_sub [0, 1] rfl ?_
  exact hkx M9
  refine G_iconst (v := 0) dX10_join_75 rfl ?_
  refine G_istore dX10_join_76 (by decide) (L' := [(5, .int 0), (0, .ref (ad 33)), (3, .int v3_3), (4, .int v4_1)]) rfl ?_
  refine G_sub [1, 2, 3, 0] rfl ?_
  refine w_MD_join_L78 X ad v3_3 v4_1 _ (fun M12 => ?_) _ _
  refine G_iinc (v4_1 + 1) dX10_join_158 2 rfl rfl (by decide) (L' := [(4, .int (v4_1 + 1)), (0, .ref (ad 33)), (3, .int v3_3)]) rfl ?_
  refine G_goto 66 dX10_join_161 (by decide) ?_
  refine G_sub [1, 2, 0] rfl ?_
  exact hag (v4_1 + 1, M12)

set_option maxRecDepth 100000 in
set_option maxHeartbeats 4000000 in
theorem w_MD_join_L55 (X : Cx) (ad : Nat → Nat) (kx : Mem → Option (Int32 × Mem)) (hkx : ∀ (Me : Mem), G X ad mi_MD_join (φIM) 170 [(0, .ref (ad 33))] [] Me (kx Me)) : ∀ (n : Nat) (s : Int32 × Mem), G X ad mi_MD_join (φIM) 55 [(0, .ref (ad 33)), (3, .int s.1)] [] s.2 (LOOP (fun aq sq => MD_join_L55 kx aq sq.1 sq.2) n s) := by
  refine LOOP_rule (fun (s : Int32 × Mem) o => G X ad mi_MD_join (φIM) 55 [(0, .ref (ad 33)), (3, .int s.1)] [] s.2 o) (fun _ => G_none) (fun ag hag s => ?_)
  obtain ⟨v3_2, M8⟩ := s
  show G X ad mi_MD_join (φIM) 55 [(0, .ref (ad 33)), (3, .int v3_2)] [] M8 (MD_join_L55 kx ag v3_2 M8)
  unfold MD_join_L55
  refine G_iload_n dX10_join_55 1 rfl ?_
  refine G_aload_n dX10_join_56 0 rfl ?_
  refine G_getI hclX10 (by decide) rfl 8 (by decide) rfl wd_904 dX10_join_57 ?_
  refine G_icmp_ge 170 dX10_join_60 (by decide) (fun _ => ?_) (fun _ => ?_)
  refine G_sub [0] rfl ?_
  exact hkx M8
  refine G_iconst (v := 0) dX10_join_63 rfl ?_
  refine G_istore dX10_join_64 (by decide) (L' := [(4, .int 0), (0, .ref (ad 33)), (3, .int v3_2)]) rfl ?_
  refine G_sub [1, 2, 0] rfl ?_
  refine w_MD_join_L66 X ad v3_2 _ (fun M13 => ?_) _ _
  refine G_iinc (v3_2 + 1) dX10_join_164 1 rfl rfl (by decide) (L' := [(3, .int (v3_2 + 1)), (0, .ref (ad 33))]) rfl ?_
  refine G_goto 55 dX10_join_167 (by decide) ?_
  refine G_sub [1, 0] rfl ?_
  exact hag (v3_2 + 1, M13)

set_option maxRecDepth 100000 in
set_option maxHeartbeats 4000000 in
theorem m_MD_join (v1 : Int32) (v2 : Int32) (M : Mem) : MC mi_MD_join (φIM) (fun ad => [.ref (ad 33), .int v1, .int v2]) M (MD_join v1 v2 M) := by
  refine MC_of rfl (by decide +kernel) (fun ad => [(0, .ref (ad 33)), (1, .int v1), (2, .int v2)]) (fun _ => rfl) (fun _ => Nat.le_of_ble_eq_true rfl) (fun X ad => ?_)
  show G X ad mi_MD_join (φIM) 0 [(0, .ref (ad 33)), (1, .int v1), (2, .int v2)] [] M _
  unfold MD_join
  refine G_aload_n dX10_join_0 0 rfl ?_
  refine G_iload_n dX10_join_1 1 rfl ?_
  refine G_aload_n dX10_join_2 0 rfl ?_
  refine G_getR hclX10 (by decide) rfl 22 (by decide) rfl wd_918 dX10_join_3 ?_
  refine G_callV_IM (m_MD_opens _ 50 isA_50 M) cal_MD_opens ⟨Nat.le_of_ble_eq_true rfl, Nat.le_of_ble_eq_true rfl⟩ wd_1096 hclX10 (by decide) rfl [.int v1, .ref (ad 50)] rfl rfl rfl (Nat.le_of_ble_eq_true rfl) dX10_join_6 (fun r_1 M1 => ?_)
  refine G_jp (fun kq => ∀ (M2 : Mem), G X ad mi_MD_join (φIM) 24 [(0, .ref (ad 33))] [] M2 (kq M2)) (fun M2 => ?_) (fun k_1 hk_1 => ?_)
  refine G_aload_n dX10_join_24 0 rfl ?_
  refine G_iconst (v := -1) dX10_join_25 rfl ?_
  refine G_callV_IM (m_MD_no _ M2) cal_MD_no ⟨Nat.le_of_ble_eq_true rfl, Nat.le_of_ble_eq_true rfl⟩ wd_1008 hclX10 (by decide) rfl [.int (-1)] rfl rfl rfl (Nat.le_of_ble_eq_true rfl) dX10_join_26 (fun r_2 M3 => ?_)
  exact G_ireturn rfl rfl dX10_join_29 rfl
  refine G_if_lt 24 dX10_join_9 (by decide) (fun _ => ?_) (fun _ => ?_)
  refine G_sub [0] rfl ?_
  exact hk_1 M1
  refine G_aload_n dX10_join_12 0 rfl ?_
  refine G_iload_n dX10_join_13 2 rfl ?_
  refine G_aload_n dX10_join_14 0 rfl ?_
  refine G_getR hclX10 (by decide) rfl 23 (by decide) rfl wd_919 dX10_join_15 ?_
  refine G_callV_IM (m_MD_opens _ 51 isA_51 M1) cal_MD_opens ⟨Nat.le_of_ble_eq_true rfl, Nat.le_of_ble_eq_true rfl⟩ wd_1096 hclX10 (by decide) rfl [.int v2, .ref (ad 51)] rfl rfl rfl (Nat.le_of_ble_eq_true rfl) dX10_join_18 (fun r_3 M4 => ?_)
  refine G_if_ge 30 dX10_join_21 (by decide) (fun _ => ?_) (fun _ => ?_)
  refine G_iconst (v := 0) dX10_join_30 rfl ?_
  refine G_istore_n 3 rfl dX10_join_31 (by decide) (L' := [(3, .int 0), (0, .ref (ad 33)), (1, .int v1), (2, .int v2)]) rfl ?_
  refine G_sub [1, 0] rfl ?_
  refine w_MD_join_L32 X ad _ (fun M7 => ?_) _ _
  refine G_iconst (v := 0) dX10_join_53 rfl ?_
  refine G_istore_n 3 rfl dX10_join_54 (by decide) (L' := [(3, .int 0), (0, .ref (ad 33))]) rfl ?_
  refine G_sub [1, 0] rfl ?_
  refine w_MD_join_L55 X ad _ (fun M14 => ?_) _ _
  refine G_aload_n dX10_join_170 0 rfl ?_
  refine G_aload_n dX10_join_171 0 rfl ?_
  refine G_getR hclX10 (by decide) rfl 24 (by decide) rfl wd_920 dX10_join_172 ?_
  refine G_callV_IM (m_MD_number 52 isA_52 M14) cal_MD_number ⟨Nat.le_of_ble_eq_true rfl, Nat.le_of_ble_eq_true rfl⟩ wd_1138 hclX10 (by decide) rfl [.ref (ad 52)] rfl rfl rfl (Nat.le_of_ble_eq_true rfl) dX10_join_175 (fun r_4 M15 => ?_)
  exact G_ireturn rfl rfl dX10_join_178 rfl
  refine G_sub [0] rfl ?_
  exact hk_1 M4

set_option maxRecDepth 100000 in
set_option maxHeartbeats 4000000 in
theorem w_MD_meet_L32 (X : Cx) (ad : Nat → Nat) (kx : Mem → Option (Int32 × Mem)) (hkx : ∀ (Me : Mem), G X ad mi_MD_meet (φIM) 68 [(0, .ref (ad 33))] [] Me (kx Me)) : ∀ (n : Nat) (s : Int32 × Mem), G X ad mi_MD_meet (φIM) 32 [(0, .ref (ad 33)), (3, .int s.1)] [] s.2 (LOOP (fun aq sq => MD_meet_L32 kx aq sq.1 sq.2) n s) := by
  refine LOOP_rule (fun (s : Int32 × Mem) o => G X ad mi_MD_meet (φIM) 32 [(0, .ref (ad 33)), (3, .int s.1)] [] s.2 o) (fun _ => G_none) (fun ag hag s => ?_)
  obtain ⟨v3_1, M5⟩ := s
  show G X ad mi_MD_meet (φIM) 32 [(0, .ref (ad 33)), (3, .int v3_1)] [] M5 (MD_meet_L32 kx ag v3_1 M5)
  unfold MD_meet_L32
  refine G_iload_n dX10_meet_32 1 rfl ?_
  refine G_aload_n dX10_meet_33 0 rfl ?_
  refine G_getI hclX10 (by decide) rfl 8 (by decide) rfl wd_904 dX10_meet_34 ?_
  refine G_icmp_ge 68 dX10_meet_37 (by decide) (fun _ => ?_) (fun _ => ?_)
  refine G_sub [0] rfl ?_
  exact hkx M5
  refine G_aload_n dX10_meet_40 0 rfl ?_
  refine G_getR hclX10 (by decide) rfl 24 (by decide) rfl wd_920 dX10_meet_41 ?_
  refine G_iload_n dX10_meet_44 1 rfl ?_
  refine G_bipush (v := 10) dX10_meet_45 rfl ?_
  refine G_aload_n dX10_meet_47 0 rfl ?_
  refine G_getR hclX10 (by decide) rfl 22 (by decide) rfl wd_918 dX10_meet_48 ?_
  refine G_iload_n dX10_meet_51 1 rfl ?_
  refine G_iald (by decide) rfl dX10_meet_52 ?_
  refine G_imul dX10_meet_53 ?_
  refine G_aload_n dX10_meet_54 0 rfl ?_
  refine G_getR hclX10 (by decide) rfl 23 (by decide) rfl wd_919 dX10_meet_55 ?_
  refine G_iload_n dX10_meet_58 1 rfl ?_
  refine G_iald (by decide) rfl dX10_meet_59 ?_
  refine G_iadd dX10_meet_60 ?_
  refine G_iast (by decide) rfl dX10_meet_61 (fun M6 => ?_)
  refine G_iinc (v3_1 + 1) dX10_meet_62 1 rfl rfl (by decide) (L' := [(3, .int (v3_1 + 1)), (0, .ref (ad 33))]) rfl ?_
  refine G_goto 32 dX10_meet_65 (by decide) ?_
  refine G_sub [1, 0] rfl ?_
  exact hag (v3_1 + 1, M6)

set_option maxRecDepth 100000 in
set_option maxHeartbeats 4000000 in
theorem m_MD_meet (v1 : Int32) (v2 : Int32) (M : Mem) : MC mi_MD_meet (φIM) (fun ad => [.ref (ad 33), .int v1, .int v2]) M (MD_meet v1 v2 M) := by
  refine MC_of rfl (by decide +kernel) (fun ad => [(0, .ref (ad 33)), (1, .int v1), (2, .int v2)]) (fun _ => rfl) (fun _ => Nat.le_of_ble_eq_true rfl) (fun X ad => ?_)
  show G X ad mi_MD_meet (φIM) 0 [(0, .ref (ad 33)), (1, .int v1), (2, .int v2)] [] M _
  unfold MD_meet
  refine G_aload_n dX10_meet_0 0 rfl ?_
  refine G_iload_n dX10_meet_1 1 rfl ?_
  refine G_aload_n dX10_meet_2 0 rfl ?_
  refine G_getR hclX10 (by decide) rfl 22 (by decide) rfl wd_918 dX10_meet_3 ?_
  refine G_callV_IM (m_MD_opens _ 50 isA_50 M) cal_MD_opens ⟨Nat.le_of_ble_eq_true rfl, Nat.le_of_ble_eq_true rfl⟩ wd_1096 hclX10 (by decide) rfl [.int v1, .ref (ad 50)] rfl rfl rfl (Nat.le_of_ble_eq_true rfl) dX10_meet_6 (fun r_1 M1 => ?_)
  refine G_jp (fun kq => ∀ (M2 : Mem), G X ad mi_MD_meet (φIM) 24 [(0, .ref (ad 33))] [] M2 (kq M2)) (fun M2 => ?_) (fun k_1 hk_1 => ?_)
  refine G_aload_n dX10_meet_24 0 rfl ?_
  refine G_iconst (v := -1) dX10_meet_25 rfl ?_
  refine G_callV_IM (m_MD_no _ M2) cal_MD_no ⟨Nat.le_of_ble_eq_true rfl, Nat.le_of_ble_eq_true rfl⟩ wd_1008 hclX10 (by decide) rfl [.int (-1)] rfl rfl rfl (Nat.le_of_ble_eq_true rfl) dX10_meet_26 (fun r_2 M3 => ?_)
  exact G_ireturn rfl rfl dX10_meet_29 rfl
  refine G_if_lt 24 dX10_meet_9 (by decide) (fun _ => ?_) (fun _ => ?_)
  refine G_sub [0] rfl ?_
  exact hk_1 M1
  refine G_aload_n dX10_meet_12 0 rfl ?_
  refine G_iload_n dX10_meet_13 2 rfl ?_
  refine G_aload_n dX10_meet_14 0 rfl ?_
  refine G_getR hclX10 (by decide) rfl 23 (by decide) rfl wd_919 dX10_meet_15 ?_
  refine G_callV_IM (m_MD_opens _ 51 isA_51 M1) cal_MD_opens ⟨Nat.le_of_ble_eq_true rfl, Nat.le_of_ble_eq_true rfl⟩ wd_1096 hclX10 (by decide) rfl [.int v2, .ref (ad 51)] rfl rfl rfl (Nat.le_of_ble_eq_true rfl) dX10_meet_18 (fun r_3 M4 => ?_)
  refine G_if_ge 30 dX10_meet_21 (by decide) (fun _ => ?_) (fun _ => ?_)
  refine G_iconst (v := 0) dX10_meet_30 rfl ?_
  refine G_istore_n 3 rfl dX10_meet_31 (by decide) (L' := [(3, .int 0), (0, .ref (ad 33)), (1, .int v1), (2, .int v2)]) rfl ?_
  refine G_sub [1, 0] rfl ?_
  refine w_MD_meet_L32 X ad _ (fun M7 => ?_) _ _
  refine G_aload_n dX10_meet_68 0 rfl ?_
  refine G_aload_n dX10_meet_69 0 rfl ?_
  refine G_getR hclX10 (by decide) rfl 24 (by decide) rfl wd_920 dX10_meet_70 ?_
  refine G_callV_IM (m_MD_number 52 isA_52 M7) cal_MD_number ⟨Nat.le_of_ble_eq_true rfl, Nat.le_of_ble_eq_true rfl⟩ wd_1138 hclX10 (by decide) rfl [.ref (ad 52)] rfl rfl rfl (Nat.le_of_ble_eq_true rfl) dX10_meet_73 (fun r_4 M8 => ?_)
  exact G_ireturn rfl rfl dX10_meet_76 rfl
  refine G_sub [0] rfl ?_
  exact hk_1 M4

set_option maxRecDepth 100000 in
set_option maxHeartbeats 4000000 in
theorem w_MD_picture_L111 (X : Cx) (ad : Nat → Nat) (v2_2 : Int32) (v3_2 : Int32) (v4_2 : Int32) (v6_2 : Int32) (v7_2 : Int32) (v9_2 : Int32) (v10_2 : Int32) (M3 : Mem) (kx : Int32 → Int32 → Option (Int32 × Mem)) (hkx : ∀ (e8 : Int32) (e11 : Int32), G X ad mi_MD_picture (φIM) 173 [(0, .ref (ad 33)), (2, .int v2_2), (3, .int v3_2), (4, .int v4_2), (6, .int v6_2), (7, .int v7_2), (8, .int e8), (9, .int v9_2), (10, .int v10_2), (11, .int e11)] [] M3 (kx e8 e11)) : ∀ (n : Nat) (s : Int32 × Int32 × Int32), G X ad mi_MD_picture (φIM) 111 [(0, .ref (ad 33)), (2, .int v2_2), (3, .int v3_2), (4, .int v4_2), (6, .int v6_2), (7, .int v7_2), (8, .int s.1), (9, .int v9_2), (10, .int v10_2), (11, .int s.2.1), (12, .int s.2.2)] [] M3 (LOOP (fun aq sq => MD_picture_L111 v3_2 v4_2 v10_2 M3 kx aq sq.1 sq.2.1 sq.2.2) n s) := by
  refine LOOP_rule (fun (s : Int32 × Int32 × Int32) o => G X ad mi_MD_picture (φIM) 111 [(0, .ref (ad 33)), (2, .int v2_2), (3, .int v3_2), (4, .int v4_2), (6, .int v6_2), (7, .int v7_2), (8, .int s.1), (9, .int v9_2), (10, .int v10_2), (11, .int s.2.1), (12, .int s.2.2)] [] M3 o) (fun _ => G_none) (fun ag hag s => ?_)
  obtain ⟨v8_2, v11_1, v12_1⟩ := s
  show G X ad mi_MD_picture (φIM) 111 [(0, .ref (ad 33)), (2, .int v2_2), (3, .int v3_2), (4, .int v4_2), (6, .int v6_2), (7, .int v7_2), (8, .int v8_2), (9, .int v9_2), (10, .int v10_2), (11, .int v11_1), (12, .int v12_1)] [] M3 (MD_picture_L111 v3_2 v4_2 v10_2 M3 kx ag v8_2 v11_1 v12_1)
  unfold MD_picture_L111
  refine G_iload dX10_picture_111 10 rfl ?_
  refine G_aload_n dX10_picture_113 0 rfl ?_
  refine G_getI hclX10 (by decide) rfl 8 (by decide) rfl wd_904 dX10_picture_114 ?_
  refine G_icmp_ge 173 dX10_picture_117 (by decide) (fun _ => ?_) (fun _ => ?_)
  refine G_sub [0, 1, 2, 3, 4, 5, 6, 7, 8, 9] rfl ?_
  exact hkx v8_2 v11_1
  refine G_iload dX10_picture_120 10 rfl ?_
  refine G_iload dX10_picture_122 8 rfl ?_
  refine G_icmp_eq 167 dX10_picture_124 (by decide) (fun _ => ?_) (fun _ => ?_)
  refine G_iinc (v12_1 + 1) dX10_picture_167 10 rfl rfl (by decide) (L' := [(12, .int (v12_1 + 1)), (0, .ref (ad 33)), (2, .int v2_2), (3, .int v3_2), (4, .int v4_2), (6, .int v6_2), (7, .int v7_2), (8, .int v8_2), (9, .int v9_2), (10, .int v10_2), (11, .int v11_1)]) rfl ?_
  refine G_goto 111 dX10_picture_170 (by decide) ?_
  refine G_sub [1, 2, 3, 4, 5, 6, 7, 8, 9, 10, 0] rfl ?_
  exact hag (v8_2, v11_1, v12_1 + 1)
  refine G_aload_n dX10_picture_127 0 rfl ?_
  refine G_getR hclX10 (by decide) rfl 22 (by decide) rfl wd_918 dX10_picture_128 ?_
  refine G_iload dX10_picture_131 10 rfl ?_
  refine G_iald (by decide) rfl dX10_picture_133 ?_
  refine G_iload_n dX10_picture_134 2 rfl ?_
  refine G_icmp_eq 141 dX10_picture_135 (by decide) (fun _ => ?_) (fun _ => ?_)
  refine G_iinc (v8_2 + 1) dX10_picture_141 6 rfl rfl (by decide) (L' := [(8, .int (v8_2 + 1)), (0, .ref (ad 33)), (2, .int v2_2), (3, .int v3_2), (4, .int v4_2), (6, .int v6_2), (7, .int v7_2), (9, .int v9_2), (10, .int v10_2), (11, .int v11_1), (12, .int v12_1)]) rfl ?_
  refine G_iload dX10_picture_144 9 rfl ?_
  refine G_aload_n dX10_picture_146 1 rfl ?_
  refine G_iload dX10_picture_147 4 rfl ?_
  refine G_iload dX10_picture_149 8 rfl ?_
  refine G_iload dX10_picture_151 10 rfl ?_
  refine G_callV_I (m_MD_has _ _ _ M3) cal_MD_has ⟨Nat.le_of_ble_eq_true rfl, Nat.le_of_ble_eq_true rfl⟩ wd_1088 hclX10 (by decide) rfl [.int v4_2, .int v10_2, .int v12_1] rfl rfl rfl (Nat.le_of_ble_eq_true rfl) dX10_picture_153 (fun r_6 => ?_)
  refine G_if_eq 163 dX10_picture_156 (by decide) (fun _ => ?_) (fun _ => ?_)
  refine G_iconst (v := 0) dX10_picture_163 rfl ?_
  refine G_iadd dX10_picture_164 ?_
  refine G_nmI (fun v11_2 => ?_)
  refine G_istore dX10_picture_165 (by decide) (L' := [(11, .int v11_2), (8, .int (v8_2 + 1)), (0, .ref (ad 33)), (2, .int v2_2), (3, .int v3_2), (4, .int v4_2), (6, .int v6_2), (7, .int v7_2), (9, .int v9_2), (10, .int v10_2), (12, .int v12_1)]) rfl ?_
  refine G_iinc (v12_1 + 1) dX10_picture_167 10 rfl rfl (by decide) (L' := [(12, .int (v12_1 + 1)), (11, .int v11_2), (8, .int (v8_2 + 1)), (0, .ref (ad 33)), (2, .int v2_2), (3, .int v3_2), (4, .int v4_2), (6, .int v6_2), (7, .int v7_2), (9, .int v9_2), (10, .int v10_2)]) rfl ?_
  refine G_goto 111 dX10_picture_170 (by decide) ?_
  refine G_sub [3, 4, 5, 6, 7, 8, 2, 9, 10, 1, 0] rfl ?_
  exact hag (v8_2 + 1, v11_2, v12_1 + 1)
  refine G_iconst (v := 1) dX10_picture_159 rfl ?_
  refine G_goto 164 dX10_picture_160 (by decide) ?_
  refine G_iadd dX10_picture_164 ?_
  refine G_nmI (fun v11_3 => ?_)
  refine G_istore dX10_picture_165 (by decide) (L' := [(11, .int v11_3), (8, .int (v8_2 + 1)), (0, .ref (ad 33)), (2, .int v2_2), (3, .int v3_2), (4, .int v4_2), (6, .int v6_2), (7, .int v7_2), (9, .int v9_2), (10, .int v10_2), (12, .int v12_1)]) rfl ?_
  refine G_iinc (v12_1 + 1) dX10_picture_167 10 rfl rfl (by decide) (L' := [(12, .int (v12_1 + 1)), (11, .int v11_3), (8, .int (v8_2 + 1)), (0, .ref (ad 33)), (2, .int v2_2), (3, .int v3_2), (4, .int v4_2), (6, .int v6_2), (7, .int v7_2), (9, .int v9_2), (10, .int v10_2)]) rfl ?_
  refine G_goto 111 dX10_picture_170 (by decide) ?_
  refine G_sub [3, 4, 5, 6, 7, 8, 2, 9, 10, 1, 0] rfl ?_
  exact hag (v8_2 + 1, v11_3, v12_1 + 1)
  refine G_goto 167 dX10_picture_138 (by decide) ?_
  refine G_iinc (v12_1 + 1) dX10_picture_167 10 rfl rfl (by decide) (L' := [(12, .int (v12_1 + 1)), (0, .ref (ad 33)), (2, .int v2_2), (3, .int v3_2), (4, .int v4_2), (6, .int v6_2), (7, .int v7_2), (8, .int v8_2), (9, .int v9_2), (10, .int v10_2), (11, .int v11_1)]) rfl ?_
  refine G_goto 111 dX10_picture_170 (by decide) ?_
  refine G_sub [1, 2, 3, 4, 5, 6, 7, 8, 9, 10, 0] rfl ?_
  exact hag (v8_2, v11_1, v12_1 + 1)

set_option maxRecDepth 100000 in
set_option maxHeartbeats 4000000 in
theorem w_MD_picture_L82 (X : Cx) (ad : Nat → Nat) (v2_1 : Int32) (v3_1 : Int32) (v4_1 : Int32) (M3 : Mem) (kx : Int32 → Int32 → Int32 → Int32 → Option (Int32 × Mem)) (hkx : ∀ (e6 : Int32) (e7 : Int32) (e8 : Int32) (e9 : Int32), G X ad mi_MD_picture (φIM) 218 [(6, .int e6), (7, .int e7), (8, .int e8), (9, .int e9)] [] M3 (kx e6 e7 e8 e9)) : ∀ (n : Nat) (s : Int32 × Int32 × Int32 × Int32 × Int32), G X ad mi_MD_picture (φIM) 82 [(0, .ref (ad 33)), (2, .int v2_1), (3, .int v3_1), (4, .int v4_1), (6, .int s.1), (7, .int s.2.1), (8, .int s.2.2.1), (9, .int s.2.2.2.1), (10, .int s.2.2.2.2)] [] M3 (LOOP (fun aq sq => MD_picture_L82 v2_1 v3_1 v4_1 M3 kx aq sq.1 sq.2.1 sq.2.2.1 sq.2.2.2.1 sq.2.2.2.2) n s) := by
  refine LOOP_rule (fun (s : Int32 × Int32 × Int32 × Int32 × Int32) o => G X ad mi_MD_picture (φIM) 82 [(0, .ref (ad 33)), (2, .int v2_1), (3, .int v3_1), (4, .int v4_1), (6, .int s.1), (7, .int s.2.1), (8, .int s.2.2.1), (9, .int s.2.2.2.1), (10, .int s.2.2.2.2)] [] M3 o) (fun _ => G_none) (fun ag hag s => ?_)
  obtain ⟨v6_1, v7_1, v8_1, v9_1, v10_1⟩ := s
  show G X ad mi_MD_picture (φIM) 82 [(0, .ref (ad 33)), (2, .int v2_1), (3, .int v3_1), (4, .int v4_1), (6, .int v6_1), (7, .int v7_1), (8, .int v8_1), (9, .int v9_1), (10, .int v10_1)] [] M3 (MD_picture_L82 v2_1 v3_1 v4_1 M3 kx ag v6_1 v7_1 v8_1 v9_1 v10_1)
  unfold MD_picture_L82
  refine G_iload dX10_picture_82 8 rfl ?_
  refine G_aload_n dX10_picture_84 0 rfl ?_
  refine G_getI hclX10 (by decide) rfl 8 (by decide) rfl wd_904 dX10_picture_85 ?_
  refine G_icmp_ge 218 dX10_picture_88 (by decide) (fun _ => ?_) (fun _ => ?_)
  refine G_sub [4, 5, 6, 7] rfl ?_
  exact hkx v6_1 v7_1 v8_1 v9_1
  refine G_aload_n dX10_picture_91 0 rfl ?_
  refine G_getR hclX10 (by decide) rfl 22 (by decide) rfl wd_918 dX10_picture_92 ?_
  refine G_iload dX10_picture_95 8 rfl ?_
  refine G_iald (by decide) rfl dX10_picture_97 ?_
  refine G_iload_n dX10_picture_98 1 rfl ?_
  refine G_icmp_eq 105 dX10_picture_99 (by decide) (fun _ => ?_) (fun _ => ?_)
  refine G_iconst (v := 0) dX10_picture_105 rfl ?_
  refine G_istore dX10_picture_106 (by decide) (L' := [(11, .int 0), (0, .ref (ad 33)), (2, .int v2_1), (3, .int v3_1), (4, .int v4_1), (6, .int v6_1), (7, .int v7_1), (8, .int v8_1), (9, .int v9_1), (10, .int v10_1)]) rfl ?_
  refine G_iconst (v := 0) dX10_picture_108 rfl ?_
  refine G_istore dX10_picture_109 (by decide) (L' := [(12, .int 0), (11, .int 0), (0, .ref (ad 33)), (2, .int v2_1), (3, .int v3_1), (4, .int v4_1), (6, .int v6_1), (7, .int v7_1), (8, .int v8_1), (9, .int v9_1), (10, .int v10_1)]) rfl ?_
  refine G_sub [2, 3, 4, 5, 6, 7, 8, 9, 10, 1, 0] rfl ?_
  refine w_MD_picture_L111 X ad v2_1 v3_1 v4_1 v6_1 v7_1 v9_1 v10_1 M3 _ (fun v8_3 v11_4 => ?_) _ _
  refine G_iload dX10_picture_173 7 rfl ?_
  refine G_iload dX10_picture_175 9 rfl ?_
  refine G_iadd dX10_picture_177 ?_
  refine G_nmI (fun v9_3 => ?_)
  refine G_istore dX10_picture_178 (by decide) (L' := [(9, .int v9_3), (0, .ref (ad 33)), (2, .int v2_1), (3, .int v3_1), (4, .int v4_1), (6, .int v6_1), (7, .int v7_1), (8, .int v8_3), (10, .int v10_1), (11, .int v11_4)]) rfl ?_
  refine G_iload dX10_picture_180 9 rfl ?_
  refine G_iload dX10_picture_182 5 rfl ?_
  refine G_jp (fun kq => ∀ (s_1 : Int32), G X ad mi_MD_picture (φIM) 194 [(0, .ref (ad 33)), (2, .int v2_1), (3, .int v3_1), (4, .int v4_1), (7, .int v7_1), (8, .int v8_3), (9, .int v9_3), (10, .int v10_1), (11, .int v11_4)] [.int s_1] M3 (kq s_1)) (fun s_1 => ?_) (fun k_2 hk_2 => ?_)
  refine G_istore dX10_picture_194 (by decide) (L' := [(6, .int s_1), (0, .ref (ad 33)), (2, .int v2_1), (3, .int v3_1), (4, .int v4_1), (7, .int v7_1), (8, .int v8_3), (9, .int v9_3), (10, .int v10_1), (11, .int v11_4)]) rfl ?_
  refine G_iload dX10_picture_196 9 rfl ?_
  refine G_iload dX10_picture_198 5 rfl ?_
  refine G_icmp_le 208 dX10_picture_200 (by decide) (fun _ => ?_) (fun _ => ?_)
  refine G_iload dX10_picture_208 5 rfl ?_
  refine G_istore dX10_picture_210 (by decide) (L' := [(7, .int v7_1), (6, .int s_1), (0, .ref (ad 33)), (2, .int v2_1), (3, .int v3_1), (4, .int v4_1), (8, .int v8_3), (9, .int v9_3), (10, .int v10_1), (11, .int v11_4)]) rfl ?_
  refine G_iinc (v10_1 + 1) dX10_picture_212 8 rfl rfl (by decide) (L' := [(10, .int (v10_1 + 1)), (7, .int v7_1), (6, .int s_1), (0, .ref (ad 33)), (2, .int v2_1), (3, .int v3_1), (4, .int v4_1), (8, .int v8_3), (9, .int v9_3), (11, .int v11_4)]) rfl ?_
  refine G_goto 82 dX10_picture_215 (by decide) ?_
  refine G_sub [3, 4, 5, 6, 2, 1, 7, 8, 0] rfl ?_
  exact hag (s_1, v7_1, v8_3, v9_3, v10_1 + 1)
  refine G_iload dX10_picture_203 9 rfl ?_
  refine G_goto 210 dX10_picture_205 (by decide) ?_
  refine G_istore dX10_picture_210 (by decide) (L' := [(7, .int v11_4), (6, .int s_1), (0, .ref (ad 33)), (2, .int v2_1), (3, .int v3_1), (4, .int v4_1), (8, .int v8_3), (9, .int v9_3), (10, .int v10_1), (11, .int v11_4)]) rfl ?_
  refine G_iinc (v10_1 + 1) dX10_picture_212 8 rfl rfl (by decide) (L' := [(10, .int (v10_1 + 1)), (7, .int v11_4), (6, .int s_1), (0, .ref (ad 33)), (2, .int v2_1), (3, .int v3_1), (4, .int v4_1), (8, .int v8_3), (9, .int v9_3), (11, .int v11_4)]) rfl ?_
  refine G_goto 82 dX10_picture_215 (by decide) ?_
  refine G_sub [3, 4, 5, 6, 2, 1, 7, 8, 0] rfl ?_
  exact hag (s_1, v11_4, v8_3, v9_3, v10_1 + 1)
  refine G_icmp_ge 192 dX10_picture_184 (by decide) (fun _ => ?_) (fun _ => ?_)
  refine G_iload dX10_picture_192 5 rfl ?_
  refine G_sub [1, 2, 3, 4, 6, 7, 0, 8, 9] rfl ?_
  exact hk_2 v6_1
  refine G_iload dX10_picture_187 9 rfl ?_
  refine G_goto 194 dX10_picture_189 (by decide) ?_
  refine G_sub [1, 2, 3, 4, 6, 7, 0, 8, 9] rfl ?_
  exact hk_2 v11_4
  refine G_goto 212 dX10_picture_102 (by decide) ?_
  refine G_iinc (v10_1 + 1) dX10_picture_212 8 rfl rfl (by decide) (L' := [(10, .int (v10_1 + 1)), (0, .ref (ad 33)), (2, .int v2_1), (3, .int v3_1), (4, .int v4_1), (6, .int v6_1), (7, .int v7_1), (8, .int v8_1), (9, .int v9_1)]) rfl ?_
  refine G_goto 82 dX10_picture_215 (by decide) ?_
  refine G_sub [1, 2, 3, 4, 5, 6, 7, 8, 0] rfl ?_
  exact hag (v6_1, v7_1, v8_1, v9_1, v10_1 + 1)

set_option maxRecDepth 100000 in
set_option maxHeartbeats 4000000 in
theorem m_MD_picture (v1 : Int32) (v2 : Int32) (v3 : Int32) (v4 : Int32) (M : Mem) : MC mi_MD_picture (φIM) (fun ad => [.ref (ad 33), .int v1, .int v2, .int v3, .int v4]) M (MD_picture v1 v2 v3 v4 M) := by
  refine MC_of rfl (by decide +kernel) (fun ad => [(0, .ref (ad 33)), (1, .int v1), (2, .int v2), (3, .int v3), (4, .int v4)]) (fun _ => rfl) (fun _ => Nat.le_of_ble_eq_true rfl) (fun X ad => ?_)
  show G X ad mi_MD_picture (φIM) 0 [(0, .ref (ad 33)), (1, .int v1), (2, .int v2), (3, .int v3), (4, .int v4)] [] M _
  unfold MD_picture
  refine G_aload_n dX10_picture_0 0 rfl ?_
  refine G_iload_n dX10_picture_1 1 rfl ?_
  refine G_aload_n dX10_picture_2 0 rfl ?_
  refine G_getR hclX10 (by decide) rfl 22 (by decide) rfl wd_918 dX10_picture_3 ?_
  refine G_callV_IM (m_MD_opens _ 50 isA_50 M) cal_MD_opens ⟨Nat.le_of_ble_eq_true rfl, Nat.le_of_ble_eq_true rfl⟩ wd_1096 hclX10 (by decide) rfl [.int v1, .ref (ad 50)] rfl rfl rfl (Nat.le_of_ble_eq_true rfl) dX10_picture_6 (fun r_1 M1 => ?_)
  refine G_istore dX10_picture_9 (by decide) (L' := [(5, .int r_1), (0, .ref (ad 33)), (1, .int v1), (2, .int v2), (3, .int v3), (4, .int v4)]) rfl ?_
  refine G_iload dX10_picture_11 0 rfl ?_
  refine G_jp (fun kq => G X ad mi_MD_picture (φIM) 52 [(0, .ref (ad 33))] [] M1 (kq)) ?_ (fun k_1 hk_1 => ?_)
  refine G_aload_n dX10_picture_52 0 rfl ?_
  refine G_iconst (v := -1) dX10_picture_53 rfl ?_
  refine G_callV_IM (m_MD_no _ M1) cal_MD_no ⟨Nat.le_of_ble_eq_true rfl, Nat.le_of_ble_eq_true rfl⟩ wd_1008 hclX10 (by decide) rfl [.int (-1)] rfl rfl rfl (Nat.le_of_ble_eq_true rfl) dX10_picture_54 (fun r_2 M2 => ?_)
  exact G_ireturn rfl rfl dX10_picture_57 rfl
  refine G_if_lt 52 dX10_picture_13 (by decide) (fun _ => ?_) (fun _ => ?_)
  refine G_sub [1] rfl ?_
  exact hk_1
  refine G_iload_n dX10_picture_16 3 rfl ?_
  refine G_i2l dX10_picture_17 ?_
  refine G_lconst (v := 0) dX10_picture_18 rfl ?_
  refine G_iload dX10_picture_19 0 rfl ?_
  refine G_iconst (v := 1) dX10_picture_21 rfl ?_
  refine G_isub dX10_picture_22 ?_
  refine G_i2l dX10_picture_23 ?_
  refine G_callS_I (m_MD_isIn _ _ _ M1) cal_MD_isIn ⟨Nat.le_of_ble_eq_true rfl, Nat.le_of_ble_eq_true rfl⟩ wd_1052 rfl rfl (Nat.le_of_ble_eq_true rfl) dX10_picture_24 (fun r_3 => ?_)
  refine G_if_eq 52 dX10_picture_27 (by decide) (fun _ => ?_) (fun _ => ?_)
  refine G_sub [1] rfl ?_
  exact hk_1
  refine G_iload_n dX10_picture_30 4 rfl ?_
  refine G_i2l dX10_picture_31 ?_
  refine G_lconst (v := 0) dX10_picture_32 rfl ?_
  refine G_iload dX10_picture_33 0 rfl ?_
  refine G_iconst (v := 1) dX10_picture_35 rfl ?_
  refine G_isub dX10_picture_36 ?_
  refine G_i2l dX10_picture_37 ?_
  refine G_callS_I (m_MD_isIn _ _ _ M1) cal_MD_isIn ⟨Nat.le_of_ble_eq_true rfl, Nat.le_of_ble_eq_true rfl⟩ wd_1052 rfl rfl (Nat.le_of_ble_eq_true rfl) dX10_picture_38 (fun r_4 => ?_)
  refine G_if_eq 52 dX10_picture_41 (by decide) (fun _ => ?_) (fun _ => ?_)
  refine G_sub [1] rfl ?_
  exact hk_1
  refine G_iload dX10_picture_44 5 rfl ?_
  refine G_callS_I (m_MD_isKind _ M1) cal_MD_isKind ⟨Nat.le_of_ble_eq_true rfl, Nat.le_of_ble_eq_true rfl⟩ wd_1073 rfl rfl (Nat.le_of_ble_eq_true rfl) dX10_picture_46 (fun r_5 => ?_)
  refine G_if_ne 58 dX10_picture_49 (by decide) (fun _ => ?_) (fun _ => ?_)
  refine G_sub [1] rfl ?_
  exact hk_1
  refine G_aload_n dX10_picture_58 1 rfl ?_
  refine G_aload_n dX10_picture_59 1 rfl ?_
  refine G_getI hclX10 (by decide) rfl 10 (by decide) rfl wd_906 dX10_picture_60 ?_
  refine G_callV_V (m_MD_findTies _ M1) cal_MD_findTies ⟨Nat.le_of_ble_eq_true rfl, Nat.le_of_ble_eq_true rfl⟩ wd_1076 hclX10 (by decide) rfl [.int (M1 33 10)] rfl rfl rfl (Nat.le_of_ble_eq_true rfl) dX10_picture_63 (fun M3 => ?_)
  refine G_bipush (v := 100) dX10_picture_66 rfl ?_
  refine G_istore dX10_picture_68 (by decide) (L' := [(6, .int 100), (5, .int r_1), (0, .ref (ad 33)), (1, .int v1), (2, .int v2), (3, .int v3), (4, .int v4)]) rfl ?_
  refine G_iconst (v := 0) dX10_picture_70 rfl ?_
  refine G_istore dX10_picture_71 (by decide) (L' := [(7, .int 0), (6, .int 100), (5, .int r_1), (0, .ref (ad 33)), (1, .int v1), (2, .int v2), (3, .int v3), (4, .int v4)]) rfl ?_
  refine G_iconst (v := 0) dX10_picture_73 rfl ?_
  refine G_istore dX10_picture_74 (by decide) (L' := [(8, .int 0), (7, .int 0), (6, .int 100), (5, .int r_1), (0, .ref (ad 33)), (1, .int v1), (2, .int v2), (3, .int v3), (4, .int v4)]) rfl ?_
  refine G_iconst (v := 0) dX10_picture_76 rfl ?_
  refine G_istore dX10_picture_77 (by decide) (L' := [(9, .int 0), (8, .int 0), (7, .int 0), (6, .int 100), (5, .int r_1), (0, .ref (ad 33)), (1, .int v1), (2, .int v2), (3, .int v3), (4, .int v4)]) rfl ?_
  refine G_iconst (v := 0) dX10_picture_79 rfl ?_
  refine G_istore dX10_picture_80 (by decide) (L' := [(10, .int 0), (9, .int 0), (8, .int 0), (7, .int 0), (6, .int 100), (5, .int r_1), (0, .ref (ad 33)), (1, .int v1), (2, .int v2), (3, .int v3), (4, .int v4)]) rfl ?_
  refine G_sub [6, 8, 9, 10, 4, 3, 2, 1, 0] rfl ?_
  refine w_MD_picture_L82 X ad v2 v3 v4 M3 _ (fun v6_3 v7_3 v8_4 v9_4 => ?_) _ _
  refine G_iload dX10_picture_218 3 rfl ?_
  refine G_if_ne 227 dX10_picture_220 (by decide) (fun _ => ?_) (fun _ => ?_)
  refine G_iconst (v := 0) dX10_picture_223 rfl ?_
  refine G_goto 259 dX10_picture_224 (by decide) ?_
  exact G_ireturn rfl rfl dX10_picture_259 rfl
  refine G_iload dX10_picture_227 3 rfl ?_
  refine G_iload dX10_picture_229 2 rfl ?_
  refine G_icmp_ne 238 dX10_picture_231 (by decide) (fun _ => ?_) (fun _ => ?_)
  refine G_iconst (v := 1) dX10_picture_234 rfl ?_
  refine G_goto 259 dX10_picture_235 (by decide) ?_
  exact G_ireturn rfl rfl dX10_picture_259 rfl
  refine G_iload dX10_picture_238 0 rfl ?_
  refine G_iload dX10_picture_240 1 rfl ?_
  refine G_icmp_ne 249 dX10_picture_242 (by decide) (fun _ => ?_) (fun _ => ?_)
  refine G_iconst (v := 2) dX10_picture_245 rfl ?_
  refine G_goto 259 dX10_picture_246 (by decide) ?_
  exact G_ireturn rfl rfl dX10_picture_259 rfl
  refine G_iload dX10_picture_249 0 rfl ?_
  refine G_if_le 258 dX10_picture_251 (by decide) (fun _ => ?_) (fun _ => ?_)
  refine G_iconst (v := 4) dX10_picture_258 rfl ?_
  exact G_ireturn rfl rfl dX10_picture_259 rfl
  refine G_iconst (v := 3) dX10_picture_254 rfl ?_
  refine G_goto 259 dX10_picture_255 (by decide) ?_
  exact G_ireturn rfl rfl dX10_picture_259 rfl

set_option maxRecDepth 100000 in
set_option maxHeartbeats 4000000 in
theorem w_MD_wrongOf_L52 (X : Cx) (ad : Nat → Nat) (v1_5 : Int32) (v2_5 : Int32) (v3_4 : Int32) (v4_3 : Int32) (v7_2 : Int32) (M : Mem) (kx : Int32 → Int32 → Option Int32) (hkx : ∀ (e5 : Int32) (e6 : Int32), G X ad mi_MD_wrongOf (φI M) 121 [(0, .ref (ad 33)), (1, .int v1_5), (2, .int v2_5), (3, .int v3_4), (4, .int v4_3), (5, .int e5), (6, .int e6), (7, .int v7_2)] [] M (kx e5 e6)) : ∀ (n : Nat) (s : Int32 × Int32 × Int32), G X ad mi_MD_wrongOf (φI M) 52 [(0, .ref (ad 33)), (1, .int v1_5), (2, .int v2_5), (3, .int v3_4), (4, .int v4_3), (5, .int s.1), (6, .int s.2.1), (7, .int v7_2), (8, .int s.2.2)] [] M (LOOP (fun aq sq => MD_wrongOf_L52 v2_5 v3_4 v4_3 v7_2 M kx aq sq.1 sq.2.1 sq.2.2) n s) := by
  refine LOOP_rule (fun (s : Int32 × Int32 × Int32) o => G X ad mi_MD_wrongOf (φI M) 52 [(0, .ref (ad 33)), (1, .int v1_5), (2, .int v2_5), (3, .int v3_4), (4, .int v4_3), (5, .int s.1), (6, .int s.2.1), (7, .int v7_2), (8, .int s.2.2)] [] M o) (fun _ => G_none) (fun ag hag s => ?_)
  obtain ⟨v5_2, v6_2, v8_1⟩ := s
  show G X ad mi_MD_wrongOf (φI M) 52 [(0, .ref (ad 33)), (1, .int v1_5), (2, .int v2_5), (3, .int v3_4), (4, .int v4_3), (5, .int v5_2), (6, .int v6_2), (7, .int v7_2), (8, .int v8_1)] [] M (MD_wrongOf_L52 v2_5 v3_4 v4_3 v7_2 M kx ag v5_2 v6_2 v8_1)
  unfold MD_wrongOf_L52
  refine G_iload dX10_wrongOf_52 8 rfl ?_
  refine G_aload_n dX10_wrongOf_54 0 rfl ?_
  refine G_getI hclX10 (by decide) rfl 8 (by decide) rfl wd_904 dX10_wrongOf_55 ?_
  refine G_icmp_ge 121 dX10_wrongOf_58 (by decide) (fun _ => ?_) (fun _ => ?_)
  refine G_sub [0, 1, 2, 3, 4, 5, 6, 7] rfl ?_
  exact hkx v5_2 v6_2
  refine G_aload_n dX10_wrongOf_61 0 rfl ?_
  refine G_getR hclX10 (by decide) rfl 22 (by decide) rfl wd_918 dX10_wrongOf_62 ?_
  refine G_iload dX10_wrongOf_65 7 rfl ?_
  refine G_iald (by decide) rfl dX10_wrongOf_67 ?_
  refine G_iload_n dX10_wrongOf_68 2 rfl ?_
  refine G_icmp_ne 121 dX10_wrongOf_69 (by decide) (fun _ => ?_) (fun _ => ?_)
  refine G_iload dX10_wrongOf_72 8 rfl ?_
  refine G_iload dX10_wrongOf_74 7 rfl ?_
  refine G_icmp_eq 115 dX10_wrongOf_76 (by decide) (fun _ => ?_) (fun _ => ?_)
  refine G_iinc (v8_1 + 1) dX10_wrongOf_115 8 rfl rfl (by decide) (L' := [(8, .int (v8_1 + 1)), (0, .ref (ad 33)), (1, .int v1_5), (2, .int v2_5), (3, .int v3_4), (4, .int v4_3), (5, .int v5_2), (6, .int v6_2), (7, .int v7_2)]) rfl ?_
  refine G_goto 52 dX10_wrongOf_118 (by decide) ?_
  refine G_sub [1, 2, 3, 4, 5, 6, 7, 8, 0] rfl ?_
  exact hag (v5_2, v6_2, v8_1 + 1)
  refine G_aload_n dX10_wrongOf_79 0 rfl ?_
  refine G_getR hclX10 (by decide) rfl 22 (by decide) rfl wd_918 dX10_wrongOf_80 ?_
  refine G_iload dX10_wrongOf_83 8 rfl ?_
  refine G_iald (by decide) rfl dX10_wrongOf_85 ?_
  refine G_iload_n dX10_wrongOf_86 3 rfl ?_
  refine G_icmp_eq 93 dX10_wrongOf_87 (by decide) (fun _ => ?_) (fun _ => ?_)
  refine G_aload_n dX10_wrongOf_93 0 rfl ?_
  refine G_iload dX10_wrongOf_94 4 rfl ?_
  refine G_iload dX10_wrongOf_96 7 rfl ?_
  refine G_iload dX10_wrongOf_98 8 rfl ?_
  refine G_callV_I (m_MD_has _ _ _ M) cal_MD_has ⟨Nat.le_of_ble_eq_true rfl, Nat.le_of_ble_eq_true rfl⟩ wd_1088 hclX10 (by decide) rfl [.int v4_3, .int v7_2, .int v8_1] rfl rfl rfl (Nat.le_of_ble_eq_true rfl) dX10_wrongOf_100 (fun r_1 => ?_)
  refine G_if_eq 112 dX10_wrongOf_103 (by decide) (fun _ => ?_) (fun _ => ?_)
  refine G_iinc (v6_2 + 1) dX10_wrongOf_112 6 rfl rfl (by decide) (L' := [(6, .int (v6_2 + 1)), (0, .ref (ad 33)), (1, .int v1_5), (2, .int v2_5), (3, .int v3_4), (4, .int v4_3), (5, .int v5_2), (7, .int v7_2), (8, .int v8_1)]) rfl ?_
  refine G_iinc (v8_1 + 1) dX10_wrongOf_115 8 rfl rfl (by decide) (L' := [(8, .int (v8_1 + 1)), (6, .int (v6_2 + 1)), (0, .ref (ad 33)), (1, .int v1_5), (2, .int v2_5), (3, .int v3_4), (4, .int v4_3), (5, .int v5_2), (7, .int v7_2)]) rfl ?_
  refine G_goto 52 dX10_wrongOf_118 (by decide) ?_
  refine G_sub [2, 3, 4, 5, 6, 7, 1, 8, 0] rfl ?_
  exact hag (v5_2, v6_2 + 1, v8_1 + 1)
  refine G_iinc (v5_2 + 1) dX10_wrongOf_106 5 rfl rfl (by decide) (L' := [(5, .int (v5_2 + 1)), (0, .ref (ad 33)), (1, .int v1_5), (2, .int v2_5), (3, .int v3_4), (4, .int v4_3), (6, .int v6_2), (7, .int v7_2), (8, .int v8_1)]) rfl ?_
  refine G_goto 115 dX10_wrongOf_109 (by decide) ?_
  refine G_iinc (v8_1 + 1) dX10_wrongOf_115 8 rfl rfl (by decide) (L' := [(8, .int (v8_1 + 1)), (5, .int (v5_2 + 1)), (0, .ref (ad 33)), (1, .int v1_5), (2, .int v2_5), (3, .int v3_4), (4, .int v4_3), (6, .int v6_2), (7, .int v7_2)]) rfl ?_
  refine G_goto 52 dX10_wrongOf_118 (by decide) ?_
  refine G_sub [2, 3, 4, 5, 6, 1, 7, 8, 0] rfl ?_
  exact hag (v5_2 + 1, v6_2, v8_1 + 1)
  refine G_goto 115 dX10_wrongOf_90 (by decide) ?_
  refine G_iinc (v8_1 + 1) dX10_wrongOf_115 8 rfl rfl (by decide) (L' := [(8, .int (v8_1 + 1)), (0, .ref (ad 33)), (1, .int v1_5), (2, .int v2_5), (3, .int v3_4), (4, .int v4_3), (5, .int v5_2), (6, .int v6_2), (7, .int v7_2)]) rfl ?_
  refine G_goto 52 dX10_wrongOf_118 (by decide) ?_
  refine G_sub [1, 2, 3, 4, 5, 6, 7, 8, 0] rfl ?_
  exact hag (v5_2, v6_2, v8_1 + 1)
  refine G_sub [0, 1, 2, 3, 4, 5, 6, 7] rfl ?_
  exact hkx v5_2 v6_2

set_option maxRecDepth 100000 in
set_option maxHeartbeats 4000000 in
theorem w_MD_wrongOf_L40 (X : Cx) (ad : Nat → Nat) (v1_4 : Int32) (v2_4 : Int32) (v3_3 : Int32) (v4_2 : Int32) (M : Mem) (kx : Int32 → Int32 → Option Int32) (hkx : ∀ (e5 : Int32) (e6 : Int32), G X ad mi_MD_wrongOf (φI M) 127 [(0, .ref (ad 33)), (1, .int v1_4), (2, .int v2_4), (3, .int v3_3), (4, .int v4_2), (5, .int e5), (6, .int e6)] [] M (kx e5 e6)) : ∀ (n : Nat) (s : Int32 × Int32 × Int32), G X ad mi_MD_wrongOf (φI M) 40 [(0, .ref (ad 33)), (1, .int v1_4), (2, .int v2_4), (3, .int v3_3), (4, .int v4_2), (5, .int s.1), (6, .int s.2.1), (7, .int s.2.2)] [] M (LOOP (fun aq sq => MD_wrongOf_L40 v2_4 v3_3 v4_2 M kx aq sq.1 sq.2.1 sq.2.2) n s) := by
  refine LOOP_rule (fun (s : Int32 × Int32 × Int32) o => G X ad mi_MD_wrongOf (φI M) 40 [(0, .ref (ad 33)), (1, .int v1_4), (2, .int v2_4), (3, .int v3_3), (4, .int v4_2), (5, .int s.1), (6, .int s.2.1), (7, .int s.2.2)] [] M o) (fun _ => G_none) (fun ag hag s => ?_)
  obtain ⟨v5_1, v6_1, v7_1⟩ := s
  show G X ad mi_MD_wrongOf (φI M) 40 [(0, .ref (ad 33)), (1, .int v1_4), (2, .int v2_4), (3, .int v3_3), (4, .int v4_2), (5, .int v5_1), (6, .int v6_1), (7, .int v7_1)] [] M (MD_wrongOf_L40 v2_4 v3_3 v4_2 M kx ag v5_1 v6_1 v7_1)
  unfold MD_wrongOf_L40
  refine G_iload dX10_wrongOf_40 7 rfl ?_
  refine G_aload_n dX10_wrongOf_42 0 rfl ?_
  refine G_getI hclX10 (by decide) rfl 8 (by decide) rfl wd_904 dX10_wrongOf_43 ?_
  refine G_icmp_ge 127 dX10_wrongOf_46 (by decide) (fun _ => ?_) (fun _ => ?_)
  refine G_sub [0, 1, 2, 3, 4, 5, 6] rfl ?_
  exact hkx v5_1 v6_1
  refine G_iconst (v := 0) dX10_wrongOf_49 rfl ?_
  refine G_istore dX10_wrongOf_50 (by decide) (L' := [(8, .int 0), (0, .ref (ad 33)), (1, .int v1_4), (2, .int v2_4), (3, .int v3_3), (4, .int v4_2), (5, .int v5_1), (6, .int v6_1), (7, .int v7_1)]) rfl ?_
  refine G_sub [1, 2, 3, 4, 5, 6, 7, 8, 0] rfl ?_
  refine w_MD_wrongOf_L52 X ad v1_4 v2_4 v3_3 v4_2 v7_1 M _ (fun v5_3 v6_3 => ?_) _ _
  refine G_iinc (v7_1 + 1) dX10_wrongOf_121 7 rfl rfl (by decide) (L' := [(7, .int (v7_1 + 1)), (0, .ref (ad 33)), (1, .int v1_4), (2, .int v2_4), (3, .int v3_3), (4, .int v4_2), (5, .int v5_3), (6, .int v6_3)]) rfl ?_
  refine G_goto 40 dX10_wrongOf_124 (by decide) ?_
  refine G_sub [1, 2, 3, 4, 5, 6, 7, 0] rfl ?_
  exact hag (v5_3, v6_3, v7_1 + 1)

set_option maxRecDepth 100000 in
set_option maxHeartbeats 4000000 in
theorem w_MD_wrongOf_L25 (X : Cx) (ad : Nat → Nat) (v2_3 : Int32) (v3_2 : Int32) (M : Mem) (kx : Int32 → Option Int32) (hkx : ∀ (e1 : Int32), G X ad mi_MD_wrongOf (φI M) 150 [(0, .ref (ad 33)), (1, .int e1), (2, .int v2_3), (3, .int v3_2)] [] M (kx e1)) : ∀ (n : Nat) (s : Int32 × Int32), G X ad mi_MD_wrongOf (φI M) 25 [(0, .ref (ad 33)), (1, .int s.1), (2, .int v2_3), (3, .int v3_2), (4, .int s.2)] [] M (LOOP (fun aq sq => MD_wrongOf_L25 v2_3 v3_2 M kx aq sq.1 sq.2) n s) := by
  refine LOOP_rule (fun (s : Int32 × Int32) o => G X ad mi_MD_wrongOf (φI M) 25 [(0, .ref (ad 33)), (1, .int s.1), (2, .int v2_3), (3, .int v3_2), (4, .int s.2)] [] M o) (fun _ => G_none) (fun ag hag s => ?_)
  obtain ⟨v1_3, v4_1⟩ := s
  show G X ad mi_MD_wrongOf (φI M) 25 [(0, .ref (ad 33)), (1, .int v1_3), (2, .int v2_3), (3, .int v3_2), (4, .int v4_1)] [] M (MD_wrongOf_L25 v2_3 v3_2 M kx ag v1_3 v4_1)
  unfold MD_wrongOf_L25
  refine G_iload dX10_wrongOf_25 4 rfl ?_
  refine G_iconst (v := 3) dX10_wrongOf_27 rfl ?_
  refine G_icmp_ge 150 dX10_wrongOf_28 (by decide) (fun _ => ?_) (fun _ => ?_)
  refine G_sub [0, 1, 2, 3] rfl ?_
  exact hkx v1_3
  refine G_iconst (v := 0) dX10_wrongOf_31 rfl ?_
  refine G_istore dX10_wrongOf_32 (by decide) (L' := [(5, .int 0), (0, .ref (ad 33)), (1, .int v1_3), (2, .int v2_3), (3, .int v3_2), (4, .int v4_1)]) rfl ?_
  refine G_iconst (v := 0) dX10_wrongOf_34 rfl ?_
  refine G_istore dX10_wrongOf_35 (by decide) (L' := [(6, .int 0), (5, .int 0), (0, .ref (ad 33)), (1, .int v1_3), (2, .int v2_3), (3, .int v3_2), (4, .int v4_1)]) rfl ?_
  refine G_iconst (v := 0) dX10_wrongOf_37 rfl ?_
  refine G_istore dX10_wrongOf_38 (by decide) (L' := [(7, .int 0), (6, .int 0), (5, .int 0), (0, .ref (ad 33)), (1, .int v1_3), (2, .int v2_3), (3, .int v3_2), (4, .int v4_1)]) rfl ?_
  refine G_sub [3, 4, 5, 6, 7, 2, 1, 0] rfl ?_
  refine w_MD_wrongOf_L40 X ad v1_3 v2_3 v3_2 v4_1 M _ (fun v5_4 v6_4 => ?_) _ _
  refine G_iload_n dX10_wrongOf_127 1 rfl ?_
  refine G_iload dX10_wrongOf_128 5 rfl ?_
  refine G_iload dX10_wrongOf_130 6 rfl ?_
  refine G_icmp_ge 140 dX10_wrongOf_132 (by decide) (fun _ => ?_) (fun _ => ?_)
  refine G_iload dX10_wrongOf_140 6 rfl ?_
  refine G_iadd dX10_wrongOf_142 ?_
  refine G_nmI (fun v1_6 => ?_)
  refine G_istore_n 1 rfl dX10_wrongOf_143 (by decide) (L' := [(1, .int v1_6), (0, .ref (ad 33)), (2, .int v2_3), (3, .int v3_2), (4, .int v4_1), (5, .int v5_4), (6, .int v6_4)]) rfl ?_
  refine G_iinc (v4_1 + 1) dX10_wrongOf_144 4 rfl rfl (by decide) (L' := [(4, .int (v4_1 + 1)), (1, .int v1_6), (0, .ref (ad 33)), (2, .int v2_3), (3, .int v3_2), (5, .int v5_4), (6, .int v6_4)]) rfl ?_
  refine G_goto 25 dX10_wrongOf_147 (by decide) ?_
  refine G_sub [2, 1, 3, 4, 0] rfl ?_
  exact hag (v1_6, v4_1 + 1)
  refine G_iload dX10_wrongOf_135 5 rfl ?_
  refine G_goto 142 dX10_wrongOf_137 (by decide) ?_
  refine G_iadd dX10_wrongOf_142 ?_
  refine G_nmI (fun v1_7 => ?_)
  refine G_istore_n 1 rfl dX10_wrongOf_143 (by decide) (L' := [(1, .int v1_7), (0, .ref (ad 33)), (2, .int v2_3), (3, .int v3_2), (4, .int v4_1), (5, .int v5_4), (6, .int v6_4)]) rfl ?_
  refine G_iinc (v4_1 + 1) dX10_wrongOf_144 4 rfl rfl (by decide) (L' := [(4, .int (v4_1 + 1)), (1, .int v1_7), (0, .ref (ad 33)), (2, .int v2_3), (3, .int v3_2), (5, .int v5_4), (6, .int v6_4)]) rfl ?_
  refine G_goto 25 dX10_wrongOf_147 (by decide) ?_
  refine G_sub [2, 1, 3, 4, 0] rfl ?_
  exact hag (v1_7, v4_1 + 1)

set_option maxRecDepth 100000 in
set_option maxHeartbeats 4000000 in
theorem w_MD_wrongOf_L14 (X : Cx) (ad : Nat → Nat) (v2_2 : Int32) (M : Mem) (kx : Int32 → Option Int32) (hkx : ∀ (e1 : Int32), G X ad mi_MD_wrongOf (φI M) 156 [(0, .ref (ad 33)), (1, .int e1), (2, .int v2_2)] [] M (kx e1)) : ∀ (n : Nat) (s : Int32 × Int32), G X ad mi_MD_wrongOf (φI M) 14 [(0, .ref (ad 33)), (1, .int s.1), (2, .int v2_2), (3, .int s.2)] [] M (LOOP (fun aq sq => MD_wrongOf_L14 v2_2 M kx aq sq.1 sq.2) n s) := by
  refine LOOP_rule (fun (s : Int32 × Int32) o => G X ad mi_MD_wrongOf (φI M) 14 [(0, .ref (ad 33)), (1, .int s.1), (2, .int v2_2), (3, .int s.2)] [] M o) (fun _ => G_none) (fun ag hag s => ?_)
  obtain ⟨v1_2, v3_1⟩ := s
  show G X ad mi_MD_wrongOf (φI M) 14 [(0, .ref (ad 33)), (1, .int v1_2), (2, .int v2_2), (3, .int v3_1)] [] M (MD_wrongOf_L14 v2_2 M kx ag v1_2 v3_1)
  unfold MD_wrongOf_L14
  refine G_iload_n dX10_wrongOf_14 3 rfl ?_
  refine G_aload_n dX10_wrongOf_15 0 rfl ?_
  refine G_getI hclX10 (by decide) rfl 8 (by decide) rfl wd_904 dX10_wrongOf_16 ?_
  refine G_icmp_ge 156 dX10_wrongOf_19 (by decide) (fun _ => ?_) (fun _ => ?_)
  refine G_sub [0, 1, 2] rfl ?_
  exact hkx v1_2
  refine G_iconst (v := 0) dX10_wrongOf_22 rfl ?_
  refine G_istore dX10_wrongOf_23 (by decide) (L' := [(4, .int 0), (0, .ref (ad 33)), (1, .int v1_2), (2, .int v2_2), (3, .int v3_1)]) rfl ?_
  refine G_sub [1, 2, 3, 4, 0] rfl ?_
  refine w_MD_wrongOf_L25 X ad v2_2 v3_1 M _ (fun v1_8 => ?_) _ _
  refine G_iinc (v3_1 + 1) dX10_wrongOf_150 3 rfl rfl (by decide) (L' := [(3, .int (v3_1 + 1)), (0, .ref (ad 33)), (1, .int v1_8), (2, .int v2_2)]) rfl ?_
  refine G_goto 14 dX10_wrongOf_153 (by decide) ?_
  refine G_sub [1, 2, 3, 0] rfl ?_
  exact hag (v1_8, v3_1 + 1)

set_option maxRecDepth 100000 in
set_option maxHeartbeats 4000000 in
theorem w_MD_wrongOf_L4 (X : Cx) (ad : Nat → Nat) (M : Mem) (kx : Int32 → Option Int32) (hkx : ∀ (e1 : Int32), G X ad mi_MD_wrongOf (φI M) 162 [(1, .int e1)] [] M (kx e1)) : ∀ (n : Nat) (s : Int32 × Int32), G X ad mi_MD_wrongOf (φI M) 4 [(0, .ref (ad 33)), (1, .int s.1), (2, .int s.2)] [] M (LOOP (fun aq sq => MD_wrongOf_L4 M kx aq sq.1 sq.2) n s) := by
  refine LOOP_rule (fun (s : Int32 × Int32) o => G X ad mi_MD_wrongOf (φI M) 4 [(0, .ref (ad 33)), (1, .int s.1), (2, .int s.2)] [] M o) (fun _ => G_none) (fun ag hag s => ?_)
  obtain ⟨v1_1, v2_1⟩ := s
  show G X ad mi_MD_wrongOf (φI M) 4 [(0, .ref (ad 33)), (1, .int v1_1), (2, .int v2_1)] [] M (MD_wrongOf_L4 M kx ag v1_1 v2_1)
  unfold MD_wrongOf_L4
  refine G_iload_n dX10_wrongOf_4 2 rfl ?_
  refine G_aload_n dX10_wrongOf_5 0 rfl ?_
  refine G_getI hclX10 (by decide) rfl 8 (by decide) rfl wd_904 dX10_wrongOf_6 ?_
  refine G_icmp_ge 162 dX10_wrongOf_9 (by decide) (fun _ => ?_) (fun _ => ?_)
  refine G_sub [1] rfl ?_
  exact hkx v1_1
  refine G_iconst (v := 0) dX10_wrongOf_12 rfl ?_
  refine G_istore_n 3 rfl dX10_wrongOf_13 (by decide) (L' := [(3, .int 0), (0, .ref (ad 33)), (1, .int v1_1), (2, .int v2_1)]) rfl ?_
  refine G_sub [1, 2, 3, 0] rfl ?_
  refine w_MD_wrongOf_L14 X ad v2_1 M _ (fun v1_9 => ?_) _ _
  refine G_iinc (v2_1 + 1) dX10_wrongOf_156 2 rfl rfl (by decide) (L' := [(2, .int (v2_1 + 1)), (0, .ref (ad 33)), (1, .int v1_9)]) rfl ?_
  refine G_goto 4 dX10_wrongOf_159 (by decide) ?_
  refine G_sub [1, 2, 0] rfl ?_
  exact hag (v1_9, v2_1 + 1)

set_option maxRecDepth 100000 in
set_option maxHeartbeats 4000000 in
theorem m_MD_wrongOf (M : Mem) : MC mi_MD_wrongOf (φI M) (fun ad => [.ref (ad 33)]) M (MD_wrongOf M) := by
  refine MC_of rfl (by decide +kernel) (fun ad => [(0, .ref (ad 33))]) (fun _ => rfl) (fun _ => Nat.le_of_ble_eq_true rfl) (fun X ad => ?_)
  show G X ad mi_MD_wrongOf (φI M) 0 [(0, .ref (ad 33))] [] M _
  unfold MD_wrongOf
  refine G_iconst (v := 0) dX10_wrongOf_0 rfl ?_
  refine G_istore_n 1 rfl dX10_wrongOf_1 (by decide) (L' := [(1, .int 0), (0, .ref (ad 33))]) rfl ?_
  refine G_iconst (v := 0) dX10_wrongOf_2 rfl ?_
  refine G_istore_n 2 rfl dX10_wrongOf_3 (by decide) (L' := [(2, .int 0), (1, .int 0), (0, .ref (ad 33))]) rfl ?_
  refine G_sub [2, 1, 0] rfl ?_
  refine w_MD_wrongOf_L4 X ad M _ (fun v1_10 => ?_) _ _
  refine G_iload_n dX10_wrongOf_162 0 rfl ?_
  exact G_ireturn rfl rfl dX10_wrongOf_163 rfl

set_option maxRecDepth 100000 in
set_option maxHeartbeats 4000000 in
theorem m_MD_wrong (v1 : Int32) (M : Mem) : MC mi_MD_wrong (φIM) (fun ad => [.ref (ad 33), .int v1]) M (MD_wrong v1 M) := by
  refine MC_of rfl (by decide +kernel) (fun ad => [(0, .ref (ad 33)), (1, .int v1)]) (fun _ => rfl) (fun _ => Nat.le_of_ble_eq_true rfl) (fun X ad => ?_)
  show G X ad mi_MD_wrong (φIM) 0 [(0, .ref (ad 33)), (1, .int v1)] [] M _
  unfold MD_wrong
  refine G_aload_n dX10_wrong_0 0 rfl ?_
  refine G_iload_n dX10_wrong_1 1 rfl ?_
  refine G_aload_n dX10_wrong_2 0 rfl ?_
  refine G_getR hclX10 (by decide) rfl 22 (by decide) rfl wd_918 dX10_wrong_3 ?_
  refine G_callV_IM (m_MD_opens _ 50 isA_50 M) cal_MD_opens ⟨Nat.le_of_ble_eq_true rfl, Nat.le_of_ble_eq_true rfl⟩ wd_1096 hclX10 (by decide) rfl [.int v1, .ref (ad 50)] rfl rfl rfl (Nat.le_of_ble_eq_true rfl) dX10_wrong_6 (fun r_1 M1 => ?_)
  refine G_if_ge 18 dX10_wrong_9 (by decide) (fun _ => ?_) (fun _ => ?_)
  refine G_aload_n dX10_wrong_18 0 rfl ?_
  refine G_aload_n dX10_wrong_19 0 rfl ?_
  refine G_getI hclX10 (by decide) rfl 10 (by decide) rfl wd_906 dX10_wrong_20 ?_
  refine G_callV_V (m_MD_findTies _ M1) cal_MD_findTies ⟨Nat.le_of_ble_eq_true rfl, Nat.le_of_ble_eq_true rfl⟩ wd_1076 hclX10 (by decide) rfl [.int (M1 33 10)] rfl rfl rfl (Nat.le_of_ble_eq_true rfl) dX10_wrong_23 (fun M2 => ?_)
  refine G_aload_n dX10_wrong_26 0 rfl ?_
  refine G_callV_I (m_MD_wrongOf M2) cal_MD_wrongOf ⟨Nat.le_of_ble_eq_true rfl, Nat.le_of_ble_eq_true rfl⟩ wd_1208 hclX10 (by decide) rfl [] rfl rfl rfl (Nat.le_of_ble_eq_true rfl) dX10_wrong_27 (fun r_2 => ?_)
  exact G_ireturn rfl rfl dX10_wrong_30 rfl
  refine G_aload_n dX10_wrong_12 0 rfl ?_
  refine G_iconst (v := -1) dX10_wrong_13 rfl ?_
  refine G_callV_IM (m_MD_no _ M1) cal_MD_no ⟨Nat.le_of_ble_eq_true rfl, Nat.le_of_ble_eq_true rfl⟩ wd_1008 hclX10 (by decide) rfl [.int (-1)] rfl rfl rfl (Nat.le_of_ble_eq_true rfl) dX10_wrong_14 (fun r_3 M3 => ?_)
  exact G_ireturn rfl rfl dX10_wrong_17 rfl

set_option maxRecDepth 100000 in
set_option maxHeartbeats 4000000 in
theorem w_MD_least_L66 (X : Cx) (ad : Nat → Nat) (v1_1 : Int32) (v2_1 : Int32) (kx : Int32 → Int32 → Int32 → Mem → Option (Int32 × Mem)) (hkx : ∀ (e4 : Int32) (e5 : Int32) (e6 : Int32) (Me : Mem), G X ad mi_MD_least (φIM) 156 [(2, .int v2_1), (4, .int e4), (5, .int e5), (6, .int e6)] [] Me (kx e4 e5 e6 Me)) : ∀ (n : Nat) (s : Int32 × Int32 × Int32 × Int32 × Mem), G X ad mi_MD_least (φIM) 66 [(0, .ref (ad 33)), (1, .int v1_1), (2, .int v2_1), (4, .int s.1), (5, .int s.2.1), (6, .int s.2.2.1), (7, .int s.2.2.2.1)] [] s.2.2.2.2 (LOOP (fun aq sq => MD_least_L66 v1_1 kx aq sq.1 sq.2.1 sq.2.2.1 sq.2.2.2.1 sq.2.2.2.2) n s) := by
  refine LOOP_rule (fun (s : Int32 × Int32 × Int32 × Int32 × Mem) o => G X ad mi_MD_least (φIM) 66 [(0, .ref (ad 33)), (1, .int v1_1), (2, .int v2_1), (4, .int s.1), (5, .int s.2.1), (6, .int s.2.2.1), (7, .int s.2.2.2.1)] [] s.2.2.2.2 o) (fun _ => G_none) (fun ag hag s => ?_)
  obtain ⟨v4_1, v5_1, v6_1, v7_1, M3⟩ := s
  show G X ad mi_MD_least (φIM) 66 [(0, .ref (ad 33)), (1, .int v1_1), (2, .int v2_1), (4, .int v4_1), (5, .int v5_1), (6, .int v6_1), (7, .int v7_1)] [] M3 (MD_least_L66 v1_1 kx ag v4_1 v5_1 v6_1 v7_1 M3)
  unfold MD_least_L66
  refine G_iload dX10_least_66 6 rfl ?_
  refine G_if_eq 156 dX10_least_68 (by decide) (fun _ => ?_) (fun _ => ?_)
  refine G_sub [2, 3, 4, 5] rfl ?_
  exact hkx v4_1 v5_1 v6_1 M3
  refine G_aload_n dX10_least_71 0 rfl ?_
  refine G_callV_I (m_MD_parts M3) cal_MD_parts ⟨Nat.le_of_ble_eq_true rfl, Nat.le_of_ble_eq_true rfl⟩ wd_1217 hclX10 (by decide) rfl [] rfl rfl rfl (Nat.le_of_ble_eq_true rfl) dX10_least_72 (fun r_2 => ?_)
  refine G_iload_n dX10_least_75 1 rfl ?_
  refine G_jp (fun kq => ∀ (v4_2 : Int32) (v5_2 : Int32) (v6_2 : Int32) (M4 : Mem), G X ad mi_MD_least (φIM) 147 [(0, .ref (ad 33)), (1, .int v1_1), (2, .int v2_1), (4, .int v4_2), (5, .int v5_2), (6, .int v6_2)] [] M4 (kq v4_2 v5_2 v6_2 M4)) (fun v4_2 v5_2 v6_2 M4 => ?_) (fun k_2 hk_2 => ?_)
  refine G_aload_n dX10_least_147 0 rfl ?_
  refine G_callV_IM (m_MD_nextParting M4) cal_MD_nextParting ⟨Nat.le_of_ble_eq_true rfl, Nat.le_of_ble_eq_true rfl⟩ wd_1184 hclX10 (by decide) rfl [] rfl rfl rfl (Nat.le_of_ble_eq_true rfl) dX10_least_148 (fun r_3 M5 => ?_)
  refine G_istore dX10_least_151 (by decide) (L' := [(7, .int r_3), (0, .ref (ad 33)), (1, .int v1_1), (2, .int v2_1), (4, .int v4_2), (5, .int v5_2), (6, .int v6_2)]) rfl ?_
  refine G_goto 66 dX10_least_153 (by decide) ?_
  refine G_sub [1, 2, 3, 4, 5, 6, 0] rfl ?_
  exact hag (v4_2, v5_2, v6_2, r_3, M5)
  refine G_icmp_ne 147 dX10_least_76 (by decide) (fun _ => ?_) (fun _ => ?_)
  refine G_aload_n dX10_least_79 0 rfl ?_
  refine G_callV_I (m_MD_wrongOf M3) cal_MD_wrongOf ⟨Nat.le_of_ble_eq_true rfl, Nat.le_of_ble_eq_true rfl⟩ wd_1208 hclX10 (by decide) rfl [] rfl rfl rfl (Nat.le_of_ble_eq_true rfl) dX10_least_80 (fun r_4 => ?_)
  refine G_istore dX10_least_83 (by decide) (L' := [(8, .int r_4), (0, .ref (ad 33)), (1, .int v1_1), (2, .int v2_1), (4, .int v4_1), (5, .int v5_1), (6, .int v6_1), (7, .int v7_1)]) rfl ?_
  refine G_iload dX10_least_85 4 rfl ?_
  refine G_bipush (v := -9) dX10_least_87 rfl ?_
  refine G_jp (fun kq => G X ad mi_MD_least (φIM) 99 [(0, .ref (ad 33)), (1, .int v1_1), (2, .int v2_1), (4, .int v4_1), (5, .int v5_1), (8, .int r_4)] [] M3 (kq)) ?_ (fun k_3 hk_3 => ?_)
  refine G_iload dX10_least_99 3 rfl ?_
  refine G_bipush (v := -9) dX10_least_101 rfl ?_
  refine G_jp (fun kq => ∀ (s_1 : Int32), G X ad mi_MD_least (φIM) 112 [(0, .ref (ad 33)), (1, .int v1_1), (2, .int v2_1), (8, .int r_4)] [.int s_1] M3 (kq s_1)) (fun s_1 => ?_) (fun k_4 hk_4 => ?_)
  refine G_istore dX10_least_112 (by decide) (L' := [(6, .int s_1), (0, .ref (ad 33)), (1, .int v1_1), (2, .int v2_1), (8, .int r_4)]) rfl ?_
  refine G_aload_n dX10_least_114 1 rfl ?_
  refine G_aload_n dX10_least_115 1 rfl ?_
  refine G_getR hclX10 (by decide) rfl 22 (by decide) rfl wd_918 dX10_least_116 ?_
  refine G_callV_IM (m_MD_number 50 isA_50 M3) cal_MD_number ⟨Nat.le_of_ble_eq_true rfl, Nat.le_of_ble_eq_true rfl⟩ wd_1138 hclX10 (by decide) rfl [.ref (ad 50)] rfl rfl rfl (Nat.le_of_ble_eq_true rfl) dX10_least_119 (fun r_5 M6 => ?_)
  refine G_istore dX10_least_122 (by decide) (L' := [(4, .int r_5), (6, .int s_1), (0, .ref (ad 33)), (1, .int v1_1), (2, .int v2_1), (8, .int r_4)]) rfl ?_
  refine G_iload dX10_least_124 5 rfl ?_
  refine G_istore dX10_least_126 (by decide) (L' := [(5, .int r_4), (4, .int r_5), (6, .int s_1), (0, .ref (ad 33)), (1, .int v1_1), (2, .int v2_1), (8, .int r_4)]) rfl ?_
  refine G_goto 147 dX10_least_128 (by decide) ?_
  refine G_sub [3, 4, 5, 1, 0, 2] rfl ?_
  exact hk_2 r_5 r_4 s_1 M6
  refine G_icmp_ne 110 dX10_least_103 (by decide) (fun _ => ?_) (fun _ => ?_)
  refine G_iconst (v := -1) dX10_least_106 rfl ?_
  refine G_goto 112 dX10_least_107 (by decide) ?_
  refine G_sub [0, 1, 2, 5] rfl ?_
  exact hk_4 (-1)
  refine G_iload dX10_least_110 4 rfl ?_
  refine G_sub [0, 1, 2, 5] rfl ?_
  exact hk_4 v5_1
  refine G_icmp_eq 99 dX10_least_89 (by decide) (fun _ => ?_) (fun _ => ?_)
  refine G_sub [1, 2, 3, 4, 5, 0] rfl ?_
  exact hk_3
  refine G_iload dX10_least_92 0 rfl ?_
  refine G_iload dX10_least_94 5 rfl ?_
  refine G_icmp_ge 131 dX10_least_96 (by decide) (fun _ => ?_) (fun _ => ?_)
  refine G_iload dX10_least_131 6 rfl ?_
  refine G_if_lt 143 dX10_least_133 (by decide) (fun _ => ?_) (fun _ => ?_)
  refine G_iload dX10_least_143 0 rfl ?_
  refine G_istore dX10_least_145 (by decide) (L' := [(6, .int r_4), (8, .int r_4), (0, .ref (ad 33)), (1, .int v1_1), (2, .int v2_1), (4, .int v4_1), (5, .int v5_1), (7, .int v7_1)]) rfl ?_
  refine G_sub [2, 3, 4, 5, 6, 0] rfl ?_
  exact hk_2 v4_1 v5_1 r_4 M3
  refine G_iload dX10_least_136 0 rfl ?_
  refine G_iload dX10_least_138 6 rfl ?_
  refine G_icmp_ge 147 dX10_least_140 (by decide) (fun _ => ?_) (fun _ => ?_)
  refine G_sub [1, 2, 3, 4, 5, 6] rfl ?_
  exact hk_2 v4_1 v5_1 v6_1 M3
  refine G_iload dX10_least_143 0 rfl ?_
  refine G_istore dX10_least_145 (by decide) (L' := [(6, .int r_4), (8, .int r_4), (0, .ref (ad 33)), (1, .int v1_1), (2, .int v2_1), (4, .int v4_1), (5, .int v5_1), (7, .int v7_1)]) rfl ?_
  refine G_sub [2, 3, 4, 5, 6, 0] rfl ?_
  exact hk_2 v4_1 v5_1 r_4 M3
  refine G_sub [1, 2, 3, 4, 5, 0] rfl ?_
  exact hk_3
  refine G_sub [0, 1, 2, 3, 4, 5] rfl ?_
  exact hk_2 v4_1 v5_1 v6_1 M3

set_option maxRecDepth 100000 in
set_option maxHeartbeats 4000000 in
theorem m_MD_least (v1 : Int32) (v2 : Int32) (M : Mem) : MC mi_MD_least (φIM) (fun ad => [.ref (ad 33), .int v1, .int v2]) M (MD_least v1 v2 M) := by
  refine MC_of rfl (by decide +kernel) (fun ad => [(0, .ref (ad 33)), (1, .int v1), (2, .int v2)]) (fun _ => rfl) (fun _ => Nat.le_of_ble_eq_true rfl) (fun X ad => ?_)
  show G X ad mi_MD_least (φIM) 0 [(0, .ref (ad 33)), (1, .int v1), (2, .int v2)] [] M _
  unfold MD_least
  refine G_iload_n dX10_least_0 1 rfl ?_
  refine G_i2l dX10_least_1 ?_
  refine G_lconst (v := 1) dX10_least_2 rfl ?_
  refine G_aload_n dX10_least_3 0 rfl ?_
  refine G_getI hclX10 (by decide) rfl 8 (by decide) rfl wd_904 dX10_least_4 ?_
  refine G_i2l dX10_least_7 ?_
  refine G_callS_I (m_MD_out _ _ _ M) cal_MD_out ⟨Nat.le_of_ble_eq_true rfl, Nat.le_of_ble_eq_true rfl⟩ wd_1005 rfl rfl (Nat.le_of_ble_eq_true rfl) dX10_least_8 (fun r_1 => ?_)
  refine G_istore_n 3 rfl dX10_least_11 (by decide) (L' := [(3, .int r_1), (0, .ref (ad 33)), (1, .int v1), (2, .int v2)]) rfl ?_
  refine G_iload_n dX10_least_12 0 rfl ?_
  refine G_jp (fun kq => ∀ (v3_1 : Int32), G X ad mi_MD_least (φIM) 31 [(0, .ref (ad 33)), (1, .int v1), (2, .int v2), (3, .int v3_1)] [] M (kq v3_1)) (fun v3_1 => ?_) (fun k_1 hk_1 => ?_)
  refine G_iload_n dX10_least_31 3 rfl ?_
  refine G_if_eq 41 dX10_least_32 (by decide) (fun _ => ?_) (fun _ => ?_)
  refine G_aload_n dX10_least_41 0 rfl ?_
  refine G_aload_n dX10_least_42 0 rfl ?_
  refine G_getI hclX10 (by decide) rfl 10 (by decide) rfl wd_906 dX10_least_43 ?_
  refine G_callV_V (m_MD_findTies _ M) cal_MD_findTies ⟨Nat.le_of_ble_eq_true rfl, Nat.le_of_ble_eq_true rfl⟩ wd_1076 hclX10 (by decide) rfl [.int (M 33 10)] rfl rfl rfl (Nat.le_of_ble_eq_true rfl) dX10_least_46 (fun M1 => ?_)
  refine G_aload_n dX10_least_49 0 rfl ?_
  refine G_callV_V (m_MD_firstParting M1) cal_MD_firstParting ⟨Nat.le_of_ble_eq_true rfl, Nat.le_of_ble_eq_true rfl⟩ wd_1180 hclX10 (by decide) rfl [] rfl rfl rfl (Nat.le_of_ble_eq_true rfl) dX10_least_50 (fun M2 => ?_)
  refine G_bipush (v := -9) dX10_least_53 rfl ?_
  refine G_istore dX10_least_55 (by decide) (L' := [(4, .int (-9)), (0, .ref (ad 33)), (1, .int v1), (2, .int v2), (3, .int v3_1)]) rfl ?_
  refine G_iconst (v := 0) dX10_least_57 rfl ?_
  refine G_istore dX10_least_58 (by decide) (L' := [(5, .int 0), (4, .int (-9)), (0, .ref (ad 33)), (1, .int v1), (2, .int v2), (3, .int v3_1)]) rfl ?_
  refine G_iconst (v := -1) dX10_least_60 rfl ?_
  refine G_istore dX10_least_61 (by decide) (L' := [(6, .int (-1)), (5, .int 0), (4, .int (-9)), (0, .ref (ad 33)), (1, .int v1), (2, .int v2), (3, .int v3_1)]) rfl ?_
  refine G_iconst (v := 1) dX10_least_63 rfl ?_
  refine G_istore dX10_least_64 (by decide) (L' := [(7, .int 1), (6, .int (-1)), (5, .int 0), (4, .int (-9)), (0, .ref (ad 33)), (1, .int v1), (2, .int v2), (3, .int v3_1)]) rfl ?_
  refine G_sub [4, 5, 6, 3, 2, 1, 0] rfl ?_
  refine w_MD_least_L66 X ad v1 v2 _ (fun v4_3 v5_3 v6_3 M7 => ?_) _ _
  refine G_iload_n dX10_least_156 0 rfl ?_
  refine G_if_ne 165 dX10_least_157 (by decide) (fun _ => ?_) (fun _ => ?_)
  refine G_iload dX10_least_160 1 rfl ?_
  refine G_goto 190 dX10_least_162 (by decide) ?_
  exact G_ireturn rfl rfl dX10_least_190 rfl
  refine G_iload_n dX10_least_165 0 rfl ?_
  refine G_iconst (v := 1) dX10_least_166 rfl ?_
  refine G_icmp_ne 175 dX10_least_167 (by decide) (fun _ => ?_) (fun _ => ?_)
  refine G_iload dX10_least_170 2 rfl ?_
  refine G_goto 190 dX10_least_172 (by decide) ?_
  exact G_ireturn rfl rfl dX10_least_190 rfl
  refine G_iload dX10_least_175 3 rfl ?_
  refine G_if_ge 185 dX10_least_177 (by decide) (fun _ => ?_) (fun _ => ?_)
  refine G_iload dX10_least_185 3 rfl ?_
  refine G_iload dX10_least_187 2 rfl ?_
  refine G_isub dX10_least_189 ?_
  exact G_ireturn rfl rfl dX10_least_190 rfl
  refine G_bipush (v := -9) dX10_least_180 rfl ?_
  refine G_goto 190 dX10_least_182 (by decide) ?_
  exact G_ireturn rfl rfl dX10_least_190 rfl
  refine G_aload_n dX10_least_35 0 rfl ?_
  refine G_iload_n dX10_least_36 3 rfl ?_
  refine G_callV_IM (m_MD_no _ M) cal_MD_no ⟨Nat.le_of_ble_eq_true rfl, Nat.le_of_ble_eq_true rfl⟩ wd_1008 hclX10 (by decide) rfl [.int v3_1] rfl rfl rfl (Nat.le_of_ble_eq_true rfl) dX10_least_37 (fun r_6 M8 => ?_)
  exact G_ireturn rfl rfl dX10_least_40 rfl
  refine G_if_ne 31 dX10_least_13 (by decide) (fun _ => ?_) (fun _ => ?_)
  refine G_iload_n dX10_least_16 3 rfl ?_
  refine G_i2l dX10_least_17 ?_
  refine G_lconst (v := 0) dX10_least_18 rfl ?_
  refine G_ldc2 wd_1216 dX10_least_19 ?_
  refine G_callS_I (m_MD_isIn _ _ _ M) cal_MD_isIn ⟨Nat.le_of_ble_eq_true rfl, Nat.le_of_ble_eq_true rfl⟩ wd_1052 rfl rfl (Nat.le_of_ble_eq_true rfl) dX10_least_22 (fun r_7 => ?_)
  refine G_if_ne 31 dX10_least_25 (by decide) (fun _ => ?_) (fun _ => ?_)
  refine G_bipush (v := -2) dX10_least_28 rfl ?_
  refine G_istore_n 3 rfl dX10_least_30 (by decide) (L' := [(3, .int (-2)), (0, .ref (ad 33)), (1, .int v1), (2, .int v2)]) rfl ?_
  refine G_sub [1, 2, 3, 0] rfl ?_
  exact hk_1 (-2)
  refine G_sub [1, 2, 3, 0] rfl ?_
  exact hk_1 r_1
  refine G_sub [1, 2, 3, 0] rfl ?_
  exact hk_1 r_1

