/-! printed by wip/whole/gen.py: the bytecode does what the functions say -/
set_option maxRecDepth 100000 in
set_option maxHeartbeats 4000000 in
theorem w_Bl_image_L30 (X : Cx) (ad : Nat → Nat) (v3_1 : Int32) (v4_1 : Int32) (v5_1 : Int32) (v6_2 : Int32) (M : Mem) (kx : Int32 → Int32 → Option Int32) (hkx : ∀ (e7 : Int32) (e8 : Int32), G X ad mi_Bl_image (φI M) 87 [(6, .int v6_2), (7, .int e7), (8, .int e8)] [] M (kx e7 e8)) : ∀ (n : Nat) (s : Int32 × Int32 × Int32), G X ad mi_Bl_image (φI M) 30 [(0, .ref (ad 20)), (1, .ref (ad 1)), (2, .ref (ad 26)), (3, .int v3_1), (4, .int v4_1), (5, .int v5_1), (6, .int v6_2), (7, .int s.1), (8, .int s.2.1), (9, .int s.2.2)] [] M (LOOP (fun aq sq => Bl_image_L30 v3_1 v4_1 v5_1 M kx aq sq.1 sq.2.1 sq.2.2) n s) := by
  refine LOOP_rule (fun (s : Int32 × Int32 × Int32) o => G X ad mi_Bl_image (φI M) 30 [(0, .ref (ad 20)), (1, .ref (ad 1)), (2, .ref (ad 26)), (3, .int v3_1), (4, .int v4_1), (5, .int v5_1), (6, .int v6_2), (7, .int s.1), (8, .int s.2.1), (9, .int s.2.2)] [] M o) (fun _ => G_none) (fun ag hag s => ?_)
  obtain ⟨v7_1, v8_1, v9_1⟩ := s
  show G X ad mi_Bl_image (φI M) 30 [(0, .ref (ad 20)), (1, .ref (ad 1)), (2, .ref (ad 26)), (3, .int v3_1), (4, .int v4_1), (5, .int v5_1), (6, .int v6_2), (7, .int v7_1), (8, .int v8_1), (9, .int v9_1)] [] M (Bl_image_L30 v3_1 v4_1 v5_1 M kx ag v7_1 v8_1 v9_1)
  unfold Bl_image_L30
  refine G_iload dX0_image_30 9 rfl ?_
  refine G_aload_n dX0_image_32 1 rfl ?_
  refine G_getIN hclX7 (by decide) rfl 2 (by decide) rfl wn_148 dX0_image_33 ?_
  refine G_icmp_ge 87 dX0_image_36 (by decide) (fun _ => ?_) (fun _ => ?_)
  refine G_sub [6, 7, 8] rfl ?_
  exact hkx v7_1 v8_1
  refine G_aload_n dX0_image_39 2 rfl ?_
  refine G_iload dX0_image_40 9 rfl ?_
  refine G_callVN_I (m_Pa_of 26 isP_26 _ M) cal_Pa_of ⟨Nat.le_of_ble_eq_true rfl, Nat.le_of_ble_eq_true rfl⟩ wn_766 hclX3 (by decide) rfl [.int v9_1] rfl rfl rfl (Nat.le_of_ble_eq_true rfl) dX0_image_42 (fun r_2 => ?_)
  refine G_iload_n dX0_image_45 3 rfl ?_
  refine G_icmp_ne 81 dX0_image_46 (by decide) (fun _ => ?_) (fun _ => ?_)
  refine G_aload_n dX0_image_49 0 rfl ?_
  refine G_aload_n dX0_image_50 1 rfl ?_
  refine G_aload_n dX0_image_51 2 rfl ?_
  refine G_iload dX0_image_52 9 rfl ?_
  refine G_iload dX0_image_54 4 rfl ?_
  refine G_iload dX0_image_56 5 rfl ?_
  refine G_callV_I (m_Bl_tiesTo _ _ _ M) cal_Bl_tiesTo ⟨Nat.le_of_ble_eq_true rfl, Nat.le_of_ble_eq_true rfl⟩ wd_767 hclX0 (by decide) rfl [.ref (ad 1), .ref (ad 26), .int v9_1, .int v4_1, .int v5_1] rfl rfl rfl (Nat.le_of_ble_eq_true rfl) dX0_image_58 (fun r_3 => ?_)
  refine G_istore dX0_image_61 (by decide) (L' := [(10, .int r_3), (0, .ref (ad 20)), (1, .ref (ad 1)), (2, .ref (ad 26)), (3, .int v3_1), (4, .int v4_1), (5, .int v5_1), (6, .int v6_2), (7, .int v7_1), (8, .int v8_1), (9, .int v9_1)]) rfl ?_
  refine G_iload dX0_image_63 8 rfl ?_
  refine G_iload dX0_image_65 0 rfl ?_
  refine G_mmin wd_772 (Nat.le_of_ble_eq_true rfl) (Nat.le_of_ble_eq_true rfl) dX0_image_67 ?_
  refine G_nmI (fun v7_2 => ?_)
  refine G_istore dX0_image_70 (by decide) (L' := [(7, .int v7_2), (10, .int r_3), (0, .ref (ad 20)), (1, .ref (ad 1)), (2, .ref (ad 26)), (3, .int v3_1), (4, .int v4_1), (5, .int v5_1), (6, .int v6_2), (8, .int v8_1), (9, .int v9_1)]) rfl ?_
  refine G_iload dX0_image_72 9 rfl ?_
  refine G_iload dX0_image_74 1 rfl ?_
  refine G_mmax wd_775 (Nat.le_of_ble_eq_true rfl) (Nat.le_of_ble_eq_true rfl) dX0_image_76 ?_
  refine G_nmI (fun v8_2 => ?_)
  refine G_istore dX0_image_79 (by decide) (L' := [(8, .int v8_2), (7, .int v7_2), (10, .int r_3), (0, .ref (ad 20)), (1, .ref (ad 1)), (2, .ref (ad 26)), (3, .int v3_1), (4, .int v4_1), (5, .int v5_1), (6, .int v6_2), (9, .int v9_1)]) rfl ?_
  refine G_iinc (v9_1 + 1) dX0_image_81 10 rfl rfl (by decide) (L' := [(9, .int (v9_1 + 1)), (8, .int v8_2), (7, .int v7_2), (10, .int r_3), (0, .ref (ad 20)), (1, .ref (ad 1)), (2, .ref (ad 26)), (3, .int v3_1), (4, .int v4_1), (5, .int v5_1), (6, .int v6_2)]) rfl ?_
  refine G_goto 30 dX0_image_84 (by decide) ?_
  refine G_sub [4, 5, 6, 7, 8, 9, 10, 2, 1, 0] rfl ?_
  exact hag (v7_2, v8_2, v9_1 + 1)
  refine G_iinc (v9_1 + 1) dX0_image_81 9 rfl rfl (by decide) (L' := [(9, .int (v9_1 + 1)), (0, .ref (ad 20)), (1, .ref (ad 1)), (2, .ref (ad 26)), (3, .int v3_1), (4, .int v4_1), (5, .int v5_1), (6, .int v6_2), (7, .int v7_1), (8, .int v8_1)]) rfl ?_
  refine G_goto 30 dX0_image_84 (by decide) ?_
  refine G_sub [1, 2, 3, 4, 5, 6, 7, 8, 9, 0] rfl ?_
  exact hag (v7_1, v8_1, v9_1 + 1)

set_option maxRecDepth 100000 in
set_option maxHeartbeats 4000000 in
theorem m_Bl_image (v3 : Int32) (v4 : Int32) (v5 : Int32) (M : Mem) : MC mi_Bl_image (φI M) (fun ad => [.ref (ad 20), .ref (ad 1), .ref (ad 26), .int v3, .int v4, .int v5]) M (Bl_image v3 v4 v5 M) := by
  refine MC_of rfl (by decide +kernel) (fun ad => [(0, .ref (ad 20)), (1, .ref (ad 1)), (2, .ref (ad 26)), (3, .int v3), (4, .int v4), (5, .int v5)]) (fun _ => rfl) (fun _ => Nat.le_of_ble_eq_true rfl) (fun X ad => ?_)
  show G X ad mi_Bl_image (φI M) 0 [(0, .ref (ad 20)), (1, .ref (ad 1)), (2, .ref (ad 26)), (3, .int v3), (4, .int v4), (5, .int v5)] [] M _
  unfold Bl_image
  refine G_aload_n dX0_image_0 2 rfl ?_
  refine G_iload dX0_image_1 4 rfl ?_
  refine G_callVN_I (m_Pa_sizeOf _ M) cal_Pa_sizeOf ⟨Nat.le_of_ble_eq_true rfl, Nat.le_of_ble_eq_true rfl⟩ wn_762 hclX3 (by decide) rfl [.int v4] rfl rfl rfl (Nat.le_of_ble_eq_true rfl) dX0_image_3 (fun r_1 => ?_)
  refine G_iload_n dX0_image_6 3 rfl ?_
  refine G_iload dX0_image_7 4 rfl ?_
  refine G_jp (fun kq => ∀ (s_1 : Int32), G X ad mi_Bl_image (φI M) 17 [(0, .ref (ad 20)), (1, .ref (ad 1)), (2, .ref (ad 26)), (3, .int v3), (4, .int v4), (5, .int v5)] [.int s_1, .int r_1] M (kq s_1)) (fun s_1 => ?_) (fun k_1 hk_1 => ?_)
  refine G_isub dX0_image_17 ?_
  refine G_nmI (fun v6_1 => ?_)
  refine G_istore dX0_image_18 (by decide) (L' := [(6, .int v6_1), (0, .ref (ad 20)), (1, .ref (ad 1)), (2, .ref (ad 26)), (3, .int v3), (4, .int v4), (5, .int v5)]) rfl ?_
  refine G_iload dX0_image_20 0 rfl ?_
  refine G_istore dX0_image_22 (by decide) (L' := [(7, .int v6_1), (6, .int v6_1), (0, .ref (ad 20)), (1, .ref (ad 1)), (2, .ref (ad 26)), (3, .int v3), (4, .int v4), (5, .int v5)]) rfl ?_
  refine G_iconst (v := 0) dX0_image_24 rfl ?_
  refine G_istore dX0_image_25 (by decide) (L' := [(8, .int 0), (7, .int v6_1), (6, .int v6_1), (0, .ref (ad 20)), (1, .ref (ad 1)), (2, .ref (ad 26)), (3, .int v3), (4, .int v4), (5, .int v5)]) rfl ?_
  refine G_iconst (v := 0) dX0_image_27 rfl ?_
  refine G_istore dX0_image_28 (by decide) (L' := [(9, .int 0), (8, .int 0), (7, .int v6_1), (6, .int v6_1), (0, .ref (ad 20)), (1, .ref (ad 1)), (2, .ref (ad 26)), (3, .int v3), (4, .int v4), (5, .int v5)]) rfl ?_
  refine G_sub [4, 5, 6, 7, 8, 9, 3, 2, 1, 0] rfl ?_
  refine w_Bl_image_L30 X ad v3 v4 v5 v6_1 M _ (fun v7_3 v8_3 => ?_) _ _
  refine G_iload dX0_image_87 2 rfl ?_
  refine G_if_ne 94 dX0_image_89 (by decide) (fun _ => ?_) (fun _ => ?_)
  refine G_iconst (v := 0) dX0_image_92 rfl ?_
  exact G_ireturn rfl rfl dX0_image_93 rfl
  refine G_iload dX0_image_94 1 rfl ?_
  refine G_iload dX0_image_96 0 rfl ?_
  refine G_icmp_ne 103 dX0_image_98 (by decide) (fun _ => ?_) (fun _ => ?_)
  refine G_iconst (v := 1) dX0_image_101 rfl ?_
  exact G_ireturn rfl rfl dX0_image_102 rfl
  refine G_iload dX0_image_103 1 rfl ?_
  refine G_iload dX0_image_105 2 rfl ?_
  refine G_icmp_ne 112 dX0_image_107 (by decide) (fun _ => ?_) (fun _ => ?_)
  refine G_iconst (v := 2) dX0_image_110 rfl ?_
  exact G_ireturn rfl rfl dX0_image_111 rfl
  refine G_iload dX0_image_112 1 rfl ?_
  refine G_if_le 121 dX0_image_114 (by decide) (fun _ => ?_) (fun _ => ?_)
  refine G_iconst (v := 4) dX0_image_121 rfl ?_
  exact G_ireturn rfl rfl dX0_image_122 rfl
  refine G_iconst (v := 3) dX0_image_117 rfl ?_
  refine G_goto 122 dX0_image_118 (by decide) ?_
  exact G_ireturn rfl rfl dX0_image_122 rfl
  refine G_icmp_ne 16 dX0_image_9 (by decide) (fun _ => ?_) (fun _ => ?_)
  refine G_iconst (v := 1) dX0_image_12 rfl ?_
  refine G_goto 17 dX0_image_13 (by decide) ?_
  refine G_sub [0, 1, 2, 3, 4, 5] rfl ?_
  exact hk_1 1
  refine G_iconst (v := 0) dX0_image_16 rfl ?_
  refine G_sub [0, 1, 2, 3, 4, 5] rfl ?_
  exact hk_1 0

set_option maxRecDepth 100000 in
set_option maxHeartbeats 4000000 in
theorem m_Pa_has (v1 : Int32) (M : Mem) : MC mi_Pa_has (φI M) (fun ad => [.ref (ad 26), .int v1]) M (Pa_has v1 M) := by
  refine MC_of rfl (by decide +kernel) (fun ad => [(0, .ref (ad 26)), (1, .int v1)]) (fun _ => rfl) (fun _ => Nat.le_of_ble_eq_true rfl) (fun X ad => ?_)
  show G X ad mi_Pa_has (φI M) 0 [(0, .ref (ad 26)), (1, .int v1)] [] M _
  unfold Pa_has
  refine G_iload_n dX3_has_0 1 rfl ?_
  refine G_if_lt 16 dX3_has_1 (by decide) (fun _ => ?_) (fun _ => ?_)
  refine G_iconst (v := 0) dX3_has_16 rfl ?_
  exact G_zreturn rfl rfl dX3_has_17 rfl
  refine G_iload_n dX3_has_4 1 rfl ?_
  refine G_aload_n dX3_has_5 0 rfl ?_
  refine G_getI hclX3 (by decide) rfl 2 (by decide) rfl wd_287 dX3_has_6 ?_
  refine G_icmp_ge 16 dX3_has_9 (by decide) (fun _ => ?_) (fun _ => ?_)
  refine G_iconst (v := 0) dX3_has_16 rfl ?_
  exact G_zreturn rfl rfl dX3_has_17 rfl
  refine G_iconst (v := 1) dX3_has_12 rfl ?_
  refine G_goto 17 dX3_has_13 (by decide) ?_
  exact G_zreturn rfl rfl dX3_has_17 rfl

set_option maxRecDepth 100000 in
set_option maxHeartbeats 4000000 in
theorem m_SP_picture (v1 : Int32) (v2 : Int32) (v3 : Int32) (v4 : Int32) (M : Mem) : MC mi_SP_picture (φIM) (fun ad => [.ref (ad 0), .int v1, .int v2, .int v3, .int v4]) M (SP_picture v1 v2 v3 v4 M) := by
  refine MC_of rfl (by decide +kernel) (fun ad => [(0, .ref (ad 0)), (1, .int v1), (2, .int v2), (3, .int v3), (4, .int v4)]) (fun _ => rfl) (fun _ => Nat.le_of_ble_eq_true rfl) (fun X ad => ?_)
  show G X ad mi_SP_picture (φIM) 0 [(0, .ref (ad 0)), (1, .int v1), (2, .int v2), (3, .int v3), (4, .int v4)] [] M _
  unfold SP_picture
  refine G_aload_n dX9_picture_0 0 rfl ?_
  refine G_getR hclX9 (by decide) rfl 8 (by decide) rfl wd_315 dX9_picture_1 ?_
  refine G_iload_n dX9_picture_4 1 rfl ?_
  refine G_aload_n dX9_picture_5 0 rfl ?_
  refine G_getR hclX9 (by decide) rfl 0 (by decide) rfl wd_307 dX9_picture_6 ?_
  refine G_getIN hclX7 (by decide) rfl 2 (by decide) rfl wn_147 dX9_picture_9 ?_
  refine G_callVN_IM (m_Pa_readNumber 26 isP_26 _ _ M) cal_Pa_readNumber ⟨Nat.le_of_ble_eq_true rfl, Nat.le_of_ble_eq_true rfl⟩ wn_501 hclX3 (by decide) rfl [.int v1, .int (M 1 2)] rfl rfl rfl (Nat.le_of_ble_eq_true rfl) dX9_picture_12 (fun r_1 M1 => ?_)
  refine G_jp (fun kq => G X ad mi_SP_picture (φIM) 48 [(0, .ref (ad 0))] [] M1 (kq)) ?_ (fun k_1 hk_1 => ?_)
  refine G_aload_n dX9_picture_48 0 rfl ?_
  refine G_iconst (v := -1) dX9_picture_49 rfl ?_
  refine G_callV_IM (m_SP_refuse _ M1) cal_SP_refuse ⟨Nat.le_of_ble_eq_true rfl, Nat.le_of_ble_eq_true rfl⟩ wd_351 hclX9 (by decide) rfl [.int (-1)] rfl rfl rfl (Nat.le_of_ble_eq_true rfl) dX9_picture_50 (fun r_2 M2 => ?_)
  exact G_ireturn rfl rfl dX9_picture_53 rfl
  refine G_if_eq 48 dX9_picture_15 (by decide) (fun _ => ?_) (fun _ => ?_)
  refine G_sub [0] rfl ?_
  exact hk_1
  refine G_aload_n dX9_picture_18 0 rfl ?_
  refine G_getR hclX9 (by decide) rfl 8 (by decide) rfl wd_315 dX9_picture_19 ?_
  refine G_iload_n dX9_picture_22 2 rfl ?_
  refine G_callVN_I (m_Pa_has _ M1) cal_Pa_has ⟨Nat.le_of_ble_eq_true rfl, Nat.le_of_ble_eq_true rfl⟩ wn_754 hclX3 (by decide) rfl [.int v2] rfl rfl rfl (Nat.le_of_ble_eq_true rfl) dX9_picture_23 (fun r_3 => ?_)
  refine G_if_eq 48 dX9_picture_26 (by decide) (fun _ => ?_) (fun _ => ?_)
  refine G_sub [0] rfl ?_
  exact hk_1
  refine G_aload_n dX9_picture_29 0 rfl ?_
  refine G_getR hclX9 (by decide) rfl 8 (by decide) rfl wd_315 dX9_picture_30 ?_
  refine G_iload_n dX9_picture_33 3 rfl ?_
  refine G_callVN_I (m_Pa_has _ M1) cal_Pa_has ⟨Nat.le_of_ble_eq_true rfl, Nat.le_of_ble_eq_true rfl⟩ wn_754 hclX3 (by decide) rfl [.int v3] rfl rfl rfl (Nat.le_of_ble_eq_true rfl) dX9_picture_34 (fun r_4 => ?_)
  refine G_if_eq 48 dX9_picture_37 (by decide) (fun _ => ?_) (fun _ => ?_)
  refine G_sub [0] rfl ?_
  exact hk_1
  refine G_iload dX9_picture_40 4 rfl ?_
  refine G_callS_I (m_SP_isKind _ M1) cal_SP_isKind ⟨Nat.le_of_ble_eq_true rfl, Nat.le_of_ble_eq_true rfl⟩ wd_465 rfl rfl (Nat.le_of_ble_eq_true rfl) dX9_picture_42 (fun r_5 => ?_)
  refine G_if_ne 54 dX9_picture_45 (by decide) (fun _ => ?_) (fun _ => ?_)
  refine G_sub [0] rfl ?_
  exact hk_1
  refine G_aload_n dX9_picture_54 0 rfl ?_
  refine G_aload_n dX9_picture_55 0 rfl ?_
  refine G_getI hclX9 (by decide) rfl 12 (by decide) rfl wd_319 dX9_picture_56 ?_
  refine G_callV_V (m_SP_lookAt _ M1) cal_SP_lookAt ⟨Nat.le_of_ble_eq_true rfl, Nat.le_of_ble_eq_true rfl⟩ wd_468 hclX9 (by decide) rfl [.int (M1 0 12)] rfl rfl rfl (Nat.le_of_ble_eq_true rfl) dX9_picture_59 (fun M3 => ?_)
  refine G_aload_n dX9_picture_62 0 rfl ?_
  refine G_getR hclX9 (by decide) rfl 6 (by decide) rfl wd_313 dX9_picture_63 ?_
  refine G_aload_n dX9_picture_66 0 rfl ?_
  refine G_getR hclX9 (by decide) rfl 0 (by decide) rfl wd_307 dX9_picture_67 ?_
  refine G_aload_n dX9_picture_70 0 rfl ?_
  refine G_getR hclX9 (by decide) rfl 8 (by decide) rfl wd_315 dX9_picture_71 ?_
  refine G_iload_n dX9_picture_74 2 rfl ?_
  refine G_iload_n dX9_picture_75 3 rfl ?_
  refine G_iload dX9_picture_76 4 rfl ?_
  refine G_callVN_I (m_Bl_image _ _ _ M3) cal_Bl_image ⟨Nat.le_of_ble_eq_true rfl, Nat.le_of_ble_eq_true rfl⟩ wn_758 hclX0 (by decide) rfl [.ref (ad 1), .ref (ad 26), .int v2, .int v3, .int v4] rfl rfl rfl (Nat.le_of_ble_eq_true rfl) dX9_picture_78 (fun r_6 => ?_)
  exact G_ireturn rfl rfl dX9_picture_81 rfl

set_option maxRecDepth 100000 in
set_option maxHeartbeats 4000000 in
theorem m_Bl_misfit (v1 : Int32) (v2 : Int32) (v3 : Int32) (v4 : Int32) (M : Mem) : MC mi_Bl_misfit (φI M) (fun ad => [.ref (ad 20), .int v1, .int v2, .int v3, .int v4]) M (Bl_misfit v1 v2 v3 v4 M) := by
  refine MC_of rfl (by decide +kernel) (fun ad => [(0, .ref (ad 20)), (1, .int v1), (2, .int v2), (3, .int v3), (4, .int v4)]) (fun _ => rfl) (fun _ => Nat.le_of_ble_eq_true rfl) (fun X ad => ?_)
  show G X ad mi_Bl_misfit (φI M) 0 [(0, .ref (ad 20)), (1, .int v1), (2, .int v2), (3, .int v3), (4, .int v4)] [] M _
  unfold Bl_misfit
  refine G_aload_n dX0_misfit_0 0 rfl ?_
  refine G_getR hclX0 (by decide) rfl 0 (by decide) rfl wd_258 dX0_misfit_1 ?_
  refine G_iload_n dX0_misfit_4 1 rfl ?_
  refine G_iload_n dX0_misfit_5 2 rfl ?_
  refine G_iload_n dX0_misfit_6 3 rfl ?_
  refine G_callSN_I (m_SP_cell _ _ _ M) cal_SP_cell ⟨Nat.le_of_ble_eq_true rfl, Nat.le_of_ble_eq_true rfl⟩ wn_790 rfl rfl (Nat.le_of_ble_eq_true rfl) dX0_misfit_7 (fun r_1 => ?_)
  refine G_callSN_I (m_SP_at 21 isA_21 _ M) cal_SP_at ⟨Nat.le_of_ble_eq_true rfl, Nat.le_of_ble_eq_true rfl⟩ wn_795 rfl rfl (Nat.le_of_ble_eq_true rfl) dX0_misfit_10 (fun r_2 => ?_)
  refine G_iload dX0_misfit_13 4 rfl ?_
  refine G_iadd dX0_misfit_15 ?_
  refine G_nmI (fun v5_1 => ?_)
  refine G_istore dX0_misfit_16 (by decide) (L' := [(5, .int v5_1), (0, .ref (ad 20)), (1, .int v1), (2, .int v2), (3, .int v3), (4, .int v4)]) rfl ?_
  refine G_aload_n dX0_misfit_18 1 rfl ?_
  refine G_getR hclX0 (by decide) rfl 1 (by decide) rfl wd_259 dX0_misfit_19 ?_
  refine G_iload_n dX0_misfit_22 3 rfl ?_
  refine G_callSN_I (m_SP_at 22 isA_22 _ M) cal_SP_at ⟨Nat.le_of_ble_eq_true rfl, Nat.le_of_ble_eq_true rfl⟩ wn_795 rfl rfl (Nat.le_of_ble_eq_true rfl) dX0_misfit_23 (fun r_3 => ?_)
  refine G_aload_n dX0_misfit_26 1 rfl ?_
  refine G_getR hclX0 (by decide) rfl 1 (by decide) rfl wd_259 dX0_misfit_27 ?_
  refine G_iload_n dX0_misfit_30 4 rfl ?_
  refine G_callSN_I (m_SP_at 22 isA_22 _ M) cal_SP_at ⟨Nat.le_of_ble_eq_true rfl, Nat.le_of_ble_eq_true rfl⟩ wn_795 rfl rfl (Nat.le_of_ble_eq_true rfl) dX0_misfit_31 (fun r_4 => ?_)
  refine G_iload_n dX0_misfit_34 3 rfl ?_
  refine G_iload_n dX0_misfit_35 4 rfl ?_
  refine G_jp (fun kq => ∀ (s_1 : Int32), G X ad mi_Bl_misfit (φI M) 44 [(5, .int v5_1)] [.int s_1, .int r_4, .int r_3] M (kq s_1)) (fun s_1 => ?_) (fun k_1 hk_1 => ?_)
  refine G_isub dX0_misfit_44 ?_
  refine G_imul dX0_misfit_45 ?_
  refine G_nmI (fun v6_1 => ?_)
  refine G_istore dX0_misfit_46 (by decide) (L' := [(6, .int v6_1), (5, .int v5_1)]) rfl ?_
  refine G_iload dX0_misfit_48 1 rfl ?_
  refine G_iload dX0_misfit_50 0 rfl ?_
  refine G_iload dX0_misfit_52 1 rfl ?_
  refine G_isub dX0_misfit_54 ?_
  refine G_mmin wd_772 (Nat.le_of_ble_eq_true rfl) (Nat.le_of_ble_eq_true rfl) dX0_misfit_55 ?_
  exact G_ireturn rfl rfl dX0_misfit_58 rfl
  refine G_icmp_ne 43 dX0_misfit_36 (by decide) (fun _ => ?_) (fun _ => ?_)
  refine G_iconst (v := 1) dX0_misfit_39 rfl ?_
  refine G_goto 44 dX0_misfit_40 (by decide) ?_
  refine G_sub [0] rfl ?_
  exact hk_1 1
  refine G_iconst (v := 0) dX0_misfit_43 rfl ?_
  refine G_sub [0] rfl ?_
  exact hk_1 0

set_option maxRecDepth 100000 in
set_option maxHeartbeats 4000000 in
theorem w_Bl_tallyTies_L52 (X : Cx) (ad : Nat → Nat) (v3_3 : Int32) (v4_2 : Int32) (kx : Mem → Option Mem) (hkx : ∀ (Me : Mem), G X ad mi_Bl_tallyTies (φV) 100 [(0, .ref (ad 20)), (1, .ref (ad 1)), (2, .ref (ad 26)), (3, .int v3_3), (4, .int v4_2)] [] Me (kx Me)) : ∀ (n : Nat) (s : Int32 × Mem), G X ad mi_Bl_tallyTies (φV) 52 [(0, .ref (ad 20)), (1, .ref (ad 1)), (2, .ref (ad 26)), (3, .int v3_3), (4, .int v4_2), (5, .int s.1)] [] s.2 (LOOP (fun aq sq => Bl_tallyTies_L52 v3_3 v4_2 kx aq sq.1 sq.2) n s) := by
  refine LOOP_rule (fun (s : Int32 × Mem) o => G X ad mi_Bl_tallyTies (φV) 52 [(0, .ref (ad 20)), (1, .ref (ad 1)), (2, .ref (ad 26)), (3, .int v3_3), (4, .int v4_2), (5, .int s.1)] [] s.2 o) (fun _ => G_none) (fun ag hag s => ?_)
  obtain ⟨v5_1, M6⟩ := s
  show G X ad mi_Bl_tallyTies (φV) 52 [(0, .ref (ad 20)), (1, .ref (ad 1)), (2, .ref (ad 26)), (3, .int v3_3), (4, .int v4_2), (5, .int v5_1)] [] M6 (Bl_tallyTies_L52 v3_3 v4_2 kx ag v5_1 M6)
  unfold Bl_tallyTies_L52
  refine G_iload dX0_tallyTies_52 5 rfl ?_
  refine G_iconst (v := 3) dX0_tallyTies_54 rfl ?_
  refine G_icmp_ge 100 dX0_tallyTies_55 (by decide) (fun _ => ?_) (fun _ => ?_)
  refine G_sub [0, 1, 2, 3, 4] rfl ?_
  exact hkx M6
  refine G_aload_n dX0_tallyTies_58 1 rfl ?_
  refine G_iload dX0_tallyTies_59 5 rfl ?_
  refine G_iload_n dX0_tallyTies_61 3 rfl ?_
  refine G_iload dX0_tallyTies_62 4 rfl ?_
  refine G_callVN_I (m_To_tied _ _ _ M6) cal_To_tied ⟨Nat.le_of_ble_eq_true rfl, Nat.le_of_ble_eq_true rfl⟩ wn_771 hclX7 (by decide) rfl [.int v5_1, .int v3_3, .int v4_2] rfl rfl rfl (Nat.le_of_ble_eq_true rfl) dX0_tallyTies_64 (fun r_2 => ?_)
  refine G_if_eq 94 dX0_tallyTies_67 (by decide) (fun _ => ?_) (fun _ => ?_)
  refine G_iinc (v5_1 + 1) dX0_tallyTies_94 5 rfl rfl (by decide) (L' := [(5, .int (v5_1 + 1)), (0, .ref (ad 20)), (1, .ref (ad 1)), (2, .ref (ad 26)), (3, .int v3_3), (4, .int v4_2)]) rfl ?_
  refine G_goto 52 dX0_tallyTies_97 (by decide) ?_
  refine G_sub [1, 2, 3, 4, 5, 0] rfl ?_
  exact hag (v5_1 + 1, M6)
  refine G_aload_n dX0_tallyTies_70 0 rfl ?_
  refine G_getR hclX0 (by decide) rfl 0 (by decide) rfl wd_258 dX0_tallyTies_71 ?_
  refine G_iload dX0_tallyTies_74 5 rfl ?_
  refine G_aload_n dX0_tallyTies_76 2 rfl ?_
  refine G_iload_n dX0_tallyTies_77 3 rfl ?_
  refine G_callVN_I (m_Pa_of 26 isP_26 _ M6) cal_Pa_of ⟨Nat.le_of_ble_eq_true rfl, Nat.le_of_ble_eq_true rfl⟩ wn_766 hclX3 (by decide) rfl [.int v3_3] rfl rfl rfl (Nat.le_of_ble_eq_true rfl) dX0_tallyTies_78 (fun r_3 => ?_)
  refine G_aload_n dX0_tallyTies_81 2 rfl ?_
  refine G_iload dX0_tallyTies_82 4 rfl ?_
  refine G_callVN_I (m_Pa_of 26 isP_26 _ M6) cal_Pa_of ⟨Nat.le_of_ble_eq_true rfl, Nat.le_of_ble_eq_true rfl⟩ wn_766 hclX3 (by decide) rfl [.int v4_2] rfl rfl rfl (Nat.le_of_ble_eq_true rfl) dX0_tallyTies_84 (fun r_4 => ?_)
  refine G_callSN_I (m_SP_cell _ _ _ M6) cal_SP_cell ⟨Nat.le_of_ble_eq_true rfl, Nat.le_of_ble_eq_true rfl⟩ wn_790 rfl rfl (Nat.le_of_ble_eq_true rfl) dX0_tallyTies_87 (fun r_5 => ?_)
  refine G_iconst (v := 1) dX0_tallyTies_90 rfl ?_
  refine G_callSN_V (m_SP_addTo 21 isA_21 _ _ M6) cal_SP_addTo ⟨Nat.le_of_ble_eq_true rfl, Nat.le_of_ble_eq_true rfl⟩ wn_789 rfl rfl (Nat.le_of_ble_eq_true rfl) dX0_tallyTies_91 (fun M7 => ?_)
  refine G_iinc (v5_1 + 1) dX0_tallyTies_94 5 rfl rfl (by decide) (L' := [(5, .int (v5_1 + 1)), (0, .ref (ad 20)), (1, .ref (ad 1)), (2, .ref (ad 26)), (3, .int v3_3), (4, .int v4_2)]) rfl ?_
  refine G_goto 52 dX0_tallyTies_97 (by decide) ?_
  refine G_sub [1, 2, 3, 4, 5, 0] rfl ?_
  exact hag (v5_1 + 1, M7)

set_option maxRecDepth 100000 in
set_option maxHeartbeats 4000000 in
theorem w_Bl_tallyTies_L40 (X : Cx) (ad : Nat → Nat) (v3_2 : Int32) (kx : Mem → Option Mem) (hkx : ∀ (Me : Mem), G X ad mi_Bl_tallyTies (φV) 106 [(0, .ref (ad 20)), (1, .ref (ad 1)), (2, .ref (ad 26)), (3, .int v3_2)] [] Me (kx Me)) : ∀ (n : Nat) (s : Int32 × Mem), G X ad mi_Bl_tallyTies (φV) 40 [(0, .ref (ad 20)), (1, .ref (ad 1)), (2, .ref (ad 26)), (3, .int v3_2), (4, .int s.1)] [] s.2 (LOOP (fun aq sq => Bl_tallyTies_L40 v3_2 kx aq sq.1 sq.2) n s) := by
  refine LOOP_rule (fun (s : Int32 × Mem) o => G X ad mi_Bl_tallyTies (φV) 40 [(0, .ref (ad 20)), (1, .ref (ad 1)), (2, .ref (ad 26)), (3, .int v3_2), (4, .int s.1)] [] s.2 o) (fun _ => G_none) (fun ag hag s => ?_)
  obtain ⟨v4_1, M5⟩ := s
  show G X ad mi_Bl_tallyTies (φV) 40 [(0, .ref (ad 20)), (1, .ref (ad 1)), (2, .ref (ad 26)), (3, .int v3_2), (4, .int v4_1)] [] M5 (Bl_tallyTies_L40 v3_2 kx ag v4_1 M5)
  unfold Bl_tallyTies_L40
  refine G_iload dX0_tallyTies_40 4 rfl ?_
  refine G_aload_n dX0_tallyTies_42 1 rfl ?_
  refine G_getIN hclX7 (by decide) rfl 2 (by decide) rfl wn_148 dX0_tallyTies_43 ?_
  refine G_icmp_ge 106 dX0_tallyTies_46 (by decide) (fun _ => ?_) (fun _ => ?_)
  refine G_sub [0, 1, 2, 3] rfl ?_
  exact hkx M5
  refine G_iconst (v := 0) dX0_tallyTies_49 rfl ?_
  refine G_istore dX0_tallyTies_50 (by decide) (L' := [(5, .int 0), (0, .ref (ad 20)), (1, .ref (ad 1)), (2, .ref (ad 26)), (3, .int v3_2), (4, .int v4_1)]) rfl ?_
  refine G_sub [1, 2, 3, 4, 5, 0] rfl ?_
  refine w_Bl_tallyTies_L52 X ad v3_2 v4_1 _ (fun M8 => ?_) _ _
  refine G_iinc (v4_1 + 1) dX0_tallyTies_100 4 rfl rfl (by decide) (L' := [(4, .int (v4_1 + 1)), (0, .ref (ad 20)), (1, .ref (ad 1)), (2, .ref (ad 26)), (3, .int v3_2)]) rfl ?_
  refine G_goto 40 dX0_tallyTies_103 (by decide) ?_
  refine G_sub [1, 2, 3, 4, 0] rfl ?_
  exact hag (v4_1 + 1, M8)

set_option maxRecDepth 100000 in
set_option maxHeartbeats 4000000 in
theorem w_Bl_tallyTies_L16 (X : Cx) (ad : Nat → Nat) (kx : Mem → Option Mem) (hkx : ∀ (Me : Mem), G X ad mi_Bl_tallyTies (φV) 112 [] [] Me (kx Me)) : ∀ (n : Nat) (s : Int32 × Mem), G X ad mi_Bl_tallyTies (φV) 16 [(0, .ref (ad 20)), (1, .ref (ad 1)), (2, .ref (ad 26)), (3, .int s.1)] [] s.2 (LOOP (fun aq sq => Bl_tallyTies_L16 kx aq sq.1 sq.2) n s) := by
  refine LOOP_rule (fun (s : Int32 × Mem) o => G X ad mi_Bl_tallyTies (φV) 16 [(0, .ref (ad 20)), (1, .ref (ad 1)), (2, .ref (ad 26)), (3, .int s.1)] [] s.2 o) (fun _ => G_none) (fun ag hag s => ?_)
  obtain ⟨v3_1, M3⟩ := s
  show G X ad mi_Bl_tallyTies (φV) 16 [(0, .ref (ad 20)), (1, .ref (ad 1)), (2, .ref (ad 26)), (3, .int v3_1)] [] M3 (Bl_tallyTies_L16 kx ag v3_1 M3)
  unfold Bl_tallyTies_L16
  refine G_iload_n dX0_tallyTies_16 3 rfl ?_
  refine G_aload_n dX0_tallyTies_17 1 rfl ?_
  refine G_getIN hclX7 (by decide) rfl 2 (by decide) rfl wn_148 dX0_tallyTies_18 ?_
  refine G_icmp_ge 112 dX0_tallyTies_21 (by decide) (fun _ => ?_) (fun _ => ?_)
  refine G_sub [] rfl ?_
  exact hkx M3
  refine G_aload_n dX0_tallyTies_24 0 rfl ?_
  refine G_getR hclX0 (by decide) rfl 1 (by decide) rfl wd_259 dX0_tallyTies_25 ?_
  refine G_aload_n dX0_tallyTies_28 2 rfl ?_
  refine G_iload_n dX0_tallyTies_29 3 rfl ?_
  refine G_callVN_I (m_Pa_of 26 isP_26 _ M3) cal_Pa_of ⟨Nat.le_of_ble_eq_true rfl, Nat.le_of_ble_eq_true rfl⟩ wn_766 hclX3 (by decide) rfl [.int v3_1] rfl rfl rfl (Nat.le_of_ble_eq_true rfl) dX0_tallyTies_30 (fun r_1 => ?_)
  refine G_iconst (v := 1) dX0_tallyTies_33 rfl ?_
  refine G_callSN_V (m_SP_addTo 22 isA_22 _ _ M3) cal_SP_addTo ⟨Nat.le_of_ble_eq_true rfl, Nat.le_of_ble_eq_true rfl⟩ wn_789 rfl rfl (Nat.le_of_ble_eq_true rfl) dX0_tallyTies_34 (fun M4 => ?_)
  refine G_iconst (v := 0) dX0_tallyTies_37 rfl ?_
  refine G_istore dX0_tallyTies_38 (by decide) (L' := [(4, .int 0), (0, .ref (ad 20)), (1, .ref (ad 1)), (2, .ref (ad 26)), (3, .int v3_1)]) rfl ?_
  refine G_sub [1, 2, 3, 4, 0] rfl ?_
  refine w_Bl_tallyTies_L40 X ad v3_1 _ (fun M9 => ?_) _ _
  refine G_iinc (v3_1 + 1) dX0_tallyTies_106 3 rfl rfl (by decide) (L' := [(3, .int (v3_1 + 1)), (0, .ref (ad 20)), (1, .ref (ad 1)), (2, .ref (ad 26))]) rfl ?_
  refine G_goto 16 dX0_tallyTies_109 (by decide) ?_
  refine G_sub [1, 2, 3, 0] rfl ?_
  exact hag (v3_1 + 1, M9)

set_option maxRecDepth 100000 in
set_option maxHeartbeats 4000000 in
theorem m_Bl_tallyTies (M : Mem) : MC mi_Bl_tallyTies (φV) (fun ad => [.ref (ad 20), .ref (ad 1), .ref (ad 26)]) M (Bl_tallyTies M) := by
  refine MC_of rfl (by decide +kernel) (fun ad => [(0, .ref (ad 20)), (1, .ref (ad 1)), (2, .ref (ad 26))]) (fun _ => rfl) (fun _ => Nat.le_of_ble_eq_true rfl) (fun X ad => ?_)
  show G X ad mi_Bl_tallyTies (φV) 0 [(0, .ref (ad 20)), (1, .ref (ad 1)), (2, .ref (ad 26))] [] M _
  unfold Bl_tallyTies
  refine G_aload_n dX0_tallyTies_0 0 rfl ?_
  refine G_getR hclX0 (by decide) rfl 0 (by decide) rfl wd_258 dX0_tallyTies_1 ?_
  refine G_callSN_V (m_SP_wipe 21 isA_21 M) cal_SP_wipe ⟨Nat.le_of_ble_eq_true rfl, Nat.le_of_ble_eq_true rfl⟩ wn_788 rfl rfl (Nat.le_of_ble_eq_true rfl) dX0_tallyTies_4 (fun M1 => ?_)
  refine G_aload_n dX0_tallyTies_7 0 rfl ?_
  refine G_getR hclX0 (by decide) rfl 1 (by decide) rfl wd_259 dX0_tallyTies_8 ?_
  refine G_callSN_V (m_SP_wipe 22 isA_22 M1) cal_SP_wipe ⟨Nat.le_of_ble_eq_true rfl, Nat.le_of_ble_eq_true rfl⟩ wn_788 rfl rfl (Nat.le_of_ble_eq_true rfl) dX0_tallyTies_11 (fun M2 => ?_)
  refine G_iconst (v := 0) dX0_tallyTies_14 rfl ?_
  refine G_istore_n 3 rfl dX0_tallyTies_15 (by decide) (L' := [(3, .int 0), (0, .ref (ad 20)), (1, .ref (ad 1)), (2, .ref (ad 26))]) rfl ?_
  refine G_sub [1, 2, 3, 0] rfl ?_
  refine w_Bl_tallyTies_L16 X ad _ (fun M10 => ?_) _ _
  exact G_return rfl rfl dX0_tallyTies_112 rfl

set_option maxRecDepth 100000 in
set_option maxHeartbeats 4000000 in
theorem w_Bl_misfits_L32 (X : Cx) (ad : Nat → Nat) (v4_3 : Int32) (v5_2 : Int32) (M1 : Mem) (kx : Int32 → Option (Int32 × Mem)) (hkx : ∀ (e3 : Int32), G X ad mi_Bl_misfits (φIM) 61 [(0, .ref (ad 20)), (2, .ref (ad 26)), (3, .int e3), (4, .int v4_3), (5, .int v5_2)] [] M1 (kx e3)) : ∀ (n : Nat) (s : Int32 × Int32), G X ad mi_Bl_misfits (φIM) 32 [(0, .ref (ad 20)), (2, .ref (ad 26)), (3, .int s.1), (4, .int v4_3), (5, .int v5_2), (6, .int s.2)] [] M1 (LOOP (fun aq sq => Bl_misfits_L32 v4_3 v5_2 M1 kx aq sq.1 sq.2) n s) := by
  refine LOOP_rule (fun (s : Int32 × Int32) o => G X ad mi_Bl_misfits (φIM) 32 [(0, .ref (ad 20)), (2, .ref (ad 26)), (3, .int s.1), (4, .int v4_3), (5, .int v5_2), (6, .int s.2)] [] M1 o) (fun _ => G_none) (fun ag hag s => ?_)
  obtain ⟨v3_3, v6_1⟩ := s
  show G X ad mi_Bl_misfits (φIM) 32 [(0, .ref (ad 20)), (2, .ref (ad 26)), (3, .int v3_3), (4, .int v4_3), (5, .int v5_2), (6, .int v6_1)] [] M1 (Bl_misfits_L32 v4_3 v5_2 M1 kx ag v3_3 v6_1)
  unfold Bl_misfits_L32
  refine G_iload dX0_misfits_32 5 rfl ?_
  refine G_aload_n dX0_misfits_34 1 rfl ?_
  refine G_getIN hclX3 (by decide) rfl 2 (by decide) rfl wn_288 dX0_misfits_35 ?_
  refine G_icmp_ge 61 dX0_misfits_38 (by decide) (fun _ => ?_) (fun _ => ?_)
  refine G_sub [0, 1, 2, 3, 4] rfl ?_
  exact hkx v3_3
  refine G_iload_n dX0_misfits_41 2 rfl ?_
  refine G_aload_n dX0_misfits_42 0 rfl ?_
  refine G_iload dX0_misfits_43 3 rfl ?_
  refine G_iload dX0_misfits_45 4 rfl ?_
  refine G_iload dX0_misfits_47 5 rfl ?_
  refine G_iconst (v := 0) dX0_misfits_49 rfl ?_
  refine G_callV_I (m_Bl_misfit _ _ _ _ M1) cal_Bl_misfit ⟨Nat.le_of_ble_eq_true rfl, Nat.le_of_ble_eq_true rfl⟩ wd_791 hclX0 (by decide) rfl [.int v4_3, .int v5_2, .int v6_1, .int 0] rfl rfl rfl (Nat.le_of_ble_eq_true rfl) dX0_misfits_50 (fun r_1 => ?_)
  refine G_iadd dX0_misfits_53 ?_
  refine G_nmI (fun v3_4 => ?_)
  refine G_istore_n 3 rfl dX0_misfits_54 (by decide) (L' := [(3, .int v3_4), (0, .ref (ad 20)), (2, .ref (ad 26)), (4, .int v4_3), (5, .int v5_2), (6, .int v6_1)]) rfl ?_
  refine G_iinc (v6_1 + 1) dX0_misfits_55 5 rfl rfl (by decide) (L' := [(6, .int (v6_1 + 1)), (3, .int v3_4), (0, .ref (ad 20)), (2, .ref (ad 26)), (4, .int v4_3), (5, .int v5_2)]) rfl ?_
  refine G_goto 32 dX0_misfits_58 (by decide) ?_
  refine G_sub [2, 3, 1, 4, 5, 0] rfl ?_
  exact hag (v3_4, v6_1 + 1)

set_option maxRecDepth 100000 in
set_option maxHeartbeats 4000000 in
theorem w_Bl_misfits_L20 (X : Cx) (ad : Nat → Nat) (v4_2 : Int32) (M1 : Mem) (kx : Int32 → Option (Int32 × Mem)) (hkx : ∀ (e3 : Int32), G X ad mi_Bl_misfits (φIM) 67 [(0, .ref (ad 20)), (2, .ref (ad 26)), (3, .int e3), (4, .int v4_2)] [] M1 (kx e3)) : ∀ (n : Nat) (s : Int32 × Int32), G X ad mi_Bl_misfits (φIM) 20 [(0, .ref (ad 20)), (2, .ref (ad 26)), (3, .int s.1), (4, .int v4_2), (5, .int s.2)] [] M1 (LOOP (fun aq sq => Bl_misfits_L20 v4_2 M1 kx aq sq.1 sq.2) n s) := by
  refine LOOP_rule (fun (s : Int32 × Int32) o => G X ad mi_Bl_misfits (φIM) 20 [(0, .ref (ad 20)), (2, .ref (ad 26)), (3, .int s.1), (4, .int v4_2), (5, .int s.2)] [] M1 o) (fun _ => G_none) (fun ag hag s => ?_)
  obtain ⟨v3_2, v5_1⟩ := s
  show G X ad mi_Bl_misfits (φIM) 20 [(0, .ref (ad 20)), (2, .ref (ad 26)), (3, .int v3_2), (4, .int v4_2), (5, .int v5_1)] [] M1 (Bl_misfits_L20 v4_2 M1 kx ag v3_2 v5_1)
  unfold Bl_misfits_L20
  refine G_iload dX0_misfits_20 4 rfl ?_
  refine G_aload_n dX0_misfits_22 1 rfl ?_
  refine G_getIN hclX3 (by decide) rfl 2 (by decide) rfl wn_288 dX0_misfits_23 ?_
  refine G_icmp_ge 67 dX0_misfits_26 (by decide) (fun _ => ?_) (fun _ => ?_)
  refine G_sub [0, 1, 2, 3] rfl ?_
  exact hkx v3_2
  refine G_iconst (v := 0) dX0_misfits_29 rfl ?_
  refine G_istore dX0_misfits_30 (by decide) (L' := [(6, .int 0), (0, .ref (ad 20)), (2, .ref (ad 26)), (3, .int v3_2), (4, .int v4_2), (5, .int v5_1)]) rfl ?_
  refine G_sub [1, 2, 3, 4, 5, 0] rfl ?_
  refine w_Bl_misfits_L32 X ad v4_2 v5_1 M1 _ (fun v3_5 => ?_) _ _
  refine G_iinc (v5_1 + 1) dX0_misfits_61 4 rfl rfl (by decide) (L' := [(5, .int (v5_1 + 1)), (0, .ref (ad 20)), (2, .ref (ad 26)), (3, .int v3_5), (4, .int v4_2)]) rfl ?_
  refine G_goto 20 dX0_misfits_64 (by decide) ?_
  refine G_sub [1, 2, 3, 4, 0] rfl ?_
  exact hag (v3_5, v5_1 + 1)

set_option maxRecDepth 100000 in
set_option maxHeartbeats 4000000 in
theorem w_Bl_misfits_L11 (X : Cx) (ad : Nat → Nat) (M1 : Mem) (kx : Int32 → Option (Int32 × Mem)) (hkx : ∀ (e3 : Int32), G X ad mi_Bl_misfits (φIM) 73 [(3, .int e3)] [] M1 (kx e3)) : ∀ (n : Nat) (s : Int32 × Int32), G X ad mi_Bl_misfits (φIM) 11 [(0, .ref (ad 20)), (2, .ref (ad 26)), (3, .int s.1), (4, .int s.2)] [] M1 (LOOP (fun aq sq => Bl_misfits_L11 M1 kx aq sq.1 sq.2) n s) := by
  refine LOOP_rule (fun (s : Int32 × Int32) o => G X ad mi_Bl_misfits (φIM) 11 [(0, .ref (ad 20)), (2, .ref (ad 26)), (3, .int s.1), (4, .int s.2)] [] M1 o) (fun _ => G_none) (fun ag hag s => ?_)
  obtain ⟨v3_1, v4_1⟩ := s
  show G X ad mi_Bl_misfits (φIM) 11 [(0, .ref (ad 20)), (2, .ref (ad 26)), (3, .int v3_1), (4, .int v4_1)] [] M1 (Bl_misfits_L11 M1 kx ag v3_1 v4_1)
  unfold Bl_misfits_L11
  refine G_iload dX0_misfits_11 3 rfl ?_
  refine G_iconst (v := 3) dX0_misfits_13 rfl ?_
  refine G_icmp_ge 73 dX0_misfits_14 (by decide) (fun _ => ?_) (fun _ => ?_)
  refine G_sub [2] rfl ?_
  exact hkx v3_1
  refine G_iconst (v := 0) dX0_misfits_17 rfl ?_
  refine G_istore dX0_misfits_18 (by decide) (L' := [(5, .int 0), (0, .ref (ad 20)), (2, .ref (ad 26)), (3, .int v3_1), (4, .int v4_1)]) rfl ?_
  refine G_sub [1, 2, 3, 4, 0] rfl ?_
  refine w_Bl_misfits_L20 X ad v4_1 M1 _ (fun v3_6 => ?_) _ _
  refine G_iinc (v4_1 + 1) dX0_misfits_67 3 rfl rfl (by decide) (L' := [(4, .int (v4_1 + 1)), (0, .ref (ad 20)), (2, .ref (ad 26)), (3, .int v3_6)]) rfl ?_
  refine G_goto 11 dX0_misfits_70 (by decide) ?_
  refine G_sub [1, 2, 3, 0] rfl ?_
  exact hag (v3_6, v4_1 + 1)

set_option maxRecDepth 100000 in
set_option maxHeartbeats 4000000 in
theorem m_Bl_misfits (M : Mem) : MC mi_Bl_misfits (φIM) (fun ad => [.ref (ad 20), .ref (ad 1), .ref (ad 26)]) M (Bl_misfits M) := by
  refine MC_of rfl (by decide +kernel) (fun ad => [(0, .ref (ad 20)), (1, .ref (ad 1)), (2, .ref (ad 26))]) (fun _ => rfl) (fun _ => Nat.le_of_ble_eq_true rfl) (fun X ad => ?_)
  show G X ad mi_Bl_misfits (φIM) 0 [(0, .ref (ad 20)), (1, .ref (ad 1)), (2, .ref (ad 26))] [] M _
  unfold Bl_misfits
  refine G_aload_n dX0_misfits_0 0 rfl ?_
  refine G_aload_n dX0_misfits_1 1 rfl ?_
  refine G_aload_n dX0_misfits_2 2 rfl ?_
  refine G_callV_V (m_Bl_tallyTies M) cal_Bl_tallyTies ⟨Nat.le_of_ble_eq_true rfl, Nat.le_of_ble_eq_true rfl⟩ wd_784 hclX0 (by decide) rfl [.ref (ad 1), .ref (ad 26)] rfl rfl rfl (Nat.le_of_ble_eq_true rfl) dX0_misfits_3 (fun M1 => ?_)
  refine G_iconst (v := 0) dX0_misfits_6 rfl ?_
  refine G_istore_n 3 rfl dX0_misfits_7 (by decide) (L' := [(3, .int 0), (0, .ref (ad 20)), (1, .ref (ad 1)), (2, .ref (ad 26))]) rfl ?_
  refine G_iconst (v := 0) dX0_misfits_8 rfl ?_
  refine G_istore dX0_misfits_9 (by decide) (L' := [(4, .int 0), (3, .int 0), (0, .ref (ad 20)), (1, .ref (ad 1)), (2, .ref (ad 26))]) rfl ?_
  refine G_sub [2, 4, 1, 0] rfl ?_
  refine w_Bl_misfits_L11 X ad M1 _ (fun v3_7 => ?_) _ _
  refine G_iload_n dX0_misfits_73 0 rfl ?_
  exact G_ireturn rfl rfl dX0_misfits_74 rfl

set_option maxRecDepth 100000 in
set_option maxHeartbeats 4000000 in
theorem m_SP_wrong (v1 : Int32) (M : Mem) : MC mi_SP_wrong (φIM) (fun ad => [.ref (ad 0), .int v1]) M (SP_wrong v1 M) := by
  refine MC_of rfl (by decide +kernel) (fun ad => [(0, .ref (ad 0)), (1, .int v1)]) (fun _ => rfl) (fun _ => Nat.le_of_ble_eq_true rfl) (fun X ad => ?_)
  show G X ad mi_SP_wrong (φIM) 0 [(0, .ref (ad 0)), (1, .int v1)] [] M _
  unfold SP_wrong
  refine G_aload_n dX9_wrong_0 0 rfl ?_
  refine G_getR hclX9 (by decide) rfl 8 (by decide) rfl wd_315 dX9_wrong_1 ?_
  refine G_iload_n dX9_wrong_4 1 rfl ?_
  refine G_aload_n dX9_wrong_5 0 rfl ?_
  refine G_getR hclX9 (by decide) rfl 0 (by decide) rfl wd_307 dX9_wrong_6 ?_
  refine G_getIN hclX7 (by decide) rfl 2 (by decide) rfl wn_147 dX9_wrong_9 ?_
  refine G_callVN_IM (m_Pa_readNumber 26 isP_26 _ _ M) cal_Pa_readNumber ⟨Nat.le_of_ble_eq_true rfl, Nat.le_of_ble_eq_true rfl⟩ wn_501 hclX3 (by decide) rfl [.int v1, .int (M 1 2)] rfl rfl rfl (Nat.le_of_ble_eq_true rfl) dX9_wrong_12 (fun r_1 M1 => ?_)
  refine G_if_ne 24 dX9_wrong_15 (by decide) (fun _ => ?_) (fun _ => ?_)
  refine G_aload_n dX9_wrong_18 0 rfl ?_
  refine G_iconst (v := -1) dX9_wrong_19 rfl ?_
  refine G_callV_IM (m_SP_refuse _ M1) cal_SP_refuse ⟨Nat.le_of_ble_eq_true rfl, Nat.le_of_ble_eq_true rfl⟩ wd_351 hclX9 (by decide) rfl [.int (-1)] rfl rfl rfl (Nat.le_of_ble_eq_true rfl) dX9_wrong_20 (fun r_2 M2 => ?_)
  exact G_ireturn rfl rfl dX9_wrong_23 rfl
  refine G_aload_n dX9_wrong_24 0 rfl ?_
  refine G_aload_n dX9_wrong_25 0 rfl ?_
  refine G_getI hclX9 (by decide) rfl 12 (by decide) rfl wd_319 dX9_wrong_26 ?_
  refine G_callV_V (m_SP_lookAt _ M1) cal_SP_lookAt ⟨Nat.le_of_ble_eq_true rfl, Nat.le_of_ble_eq_true rfl⟩ wd_468 hclX9 (by decide) rfl [.int (M1 0 12)] rfl rfl rfl (Nat.le_of_ble_eq_true rfl) dX9_wrong_29 (fun M3 => ?_)
  refine G_aload_n dX9_wrong_32 0 rfl ?_
  refine G_getR hclX9 (by decide) rfl 6 (by decide) rfl wd_313 dX9_wrong_33 ?_
  refine G_aload_n dX9_wrong_36 0 rfl ?_
  refine G_getR hclX9 (by decide) rfl 0 (by decide) rfl wd_307 dX9_wrong_37 ?_
  refine G_aload_n dX9_wrong_40 0 rfl ?_
  refine G_getR hclX9 (by decide) rfl 8 (by decide) rfl wd_315 dX9_wrong_41 ?_
  refine G_callVN_IM (m_Bl_misfits M3) cal_Bl_misfits ⟨Nat.le_of_ble_eq_true rfl, Nat.le_of_ble_eq_true rfl⟩ wn_780 hclX0 (by decide) rfl [.ref (ad 1), .ref (ad 26)] rfl rfl rfl (Nat.le_of_ble_eq_true rfl) dX9_wrong_44 (fun r_3 M4 => ?_)
  exact G_ireturn rfl rfl dX9_wrong_47 rfl

set_option maxRecDepth 100000 in
set_option maxHeartbeats 4000000 in
theorem w_Bl_bestWith_L23 (X : Cx) (ad : Nat → Nat) (v3_1 : Int32) (v4_1 : Int32) (kx : Int32 → Int32 → Int32 → Mem → Option (Int32 × Mem)) (hkx : ∀ (e5 : Int32) (e6 : Int32) (e7 : Int32) (Me : Mem), G X ad mi_Bl_bestWith (φIM) 123 [(4, .int v4_1), (5, .int e5), (6, .int e6), (7, .int e7)] [] Me (kx e5 e6 e7 Me)) : ∀ (n : Nat) (s : Int32 × Int32 × Int32 × Int32 × Int32 × Mem), G X ad mi_Bl_bestWith (φIM) 23 [(0, .ref (ad 20)), (1, .ref (ad 1)), (2, .ref (ad 26)), (3, .int v3_1), (4, .int v4_1), (5, .int s.1), (6, .int s.2.1), (7, .int s.2.2.1), (8, .int s.2.2.2.1), (9, .int s.2.2.2.2.1)] [] s.2.2.2.2.2 (LOOP (fun aq sq => Bl_bestWith_L23 v3_1 kx aq sq.1 sq.2.1 sq.2.2.1 sq.2.2.2.1 sq.2.2.2.2.1 sq.2.2.2.2.2) n s) := by
  refine LOOP_rule (fun (s : Int32 × Int32 × Int32 × Int32 × Int32 × Mem) o => G X ad mi_Bl_bestWith (φIM) 23 [(0, .ref (ad 20)), (1, .ref (ad 1)), (2, .ref (ad 26)), (3, .int v3_1), (4, .int v4_1), (5, .int s.1), (6, .int s.2.1), (7, .int s.2.2.1), (8, .int s.2.2.2.1), (9, .int s.2.2.2.2.1)] [] s.2.2.2.2.2 o) (fun _ => G_none) (fun ag hag s => ?_)
  obtain ⟨v5_1, v6_1, v7_1, v8_1, v9_1, M2⟩ := s
  show G X ad mi_Bl_bestWith (φIM) 23 [(0, .ref (ad 20)), (1, .ref (ad 1)), (2, .ref (ad 26)), (3, .int v3_1), (4, .int v4_1), (5, .int v5_1), (6, .int v6_1), (7, .int v7_1), (8, .int v8_1), (9, .int v9_1)] [] M2 (Bl_bestWith_L23 v3_1 kx ag v5_1 v6_1 v7_1 v8_1 v9_1 M2)
  unfold Bl_bestWith_L23
  refine G_iload dX0_bestWith_23 9 rfl ?_
  refine G_sipush (v := 877) dX0_bestWith_25 rfl ?_
  refine G_icmp_ge 123 dX0_bestWith_28 (by decide) (fun _ => ?_) (fun _ => ?_)
  refine G_sub [4, 5, 6, 7] rfl ?_
  exact hkx v5_1 v6_1 v7_1 M2
  refine G_iload dX0_bestWith_31 8 rfl ?_
  refine G_if_eq 123 dX0_bestWith_33 (by decide) (fun _ => ?_) (fun _ => ?_)
  refine G_sub [4, 5, 6, 7] rfl ?_
  exact hkx v5_1 v6_1 v7_1 M2
  refine G_aload_n dX0_bestWith_36 2 rfl ?_
  refine G_getIN hclX3 (by decide) rfl 2 (by decide) rfl wn_288 dX0_bestWith_37 ?_
  refine G_iload_n dX0_bestWith_40 3 rfl ?_
  refine G_jp (fun kq => ∀ (s_1 : Int32) (M3 : Mem), G X ad mi_Bl_bestWith (φIM) 54 [(0, .ref (ad 20)), (1, .ref (ad 1)), (2, .ref (ad 26)), (3, .int v3_1), (4, .int v4_1), (5, .int v5_1), (6, .int v6_1), (7, .int v7_1), (9, .int v9_1)] [.int s_1] M3 (kq s_1 M3)) (fun s_1 M3 => ?_) (fun k_1 hk_1 => ?_)
  refine G_istore dX0_bestWith_54 (by decide) (L' := [(10, .int s_1), (0, .ref (ad 20)), (1, .ref (ad 1)), (2, .ref (ad 26)), (3, .int v3_1), (4, .int v4_1), (5, .int v5_1), (6, .int v6_1), (7, .int v7_1), (9, .int v9_1)]) rfl ?_
  refine G_iload dX0_bestWith_56 0 rfl ?_
  refine G_jp (fun kq => ∀ (v5_2 : Int32) (v6_2 : Int32) (v7_2 : Int32), G X ad mi_Bl_bestWith (φIM) 111 [(0, .ref (ad 20)), (1, .ref (ad 1)), (2, .ref (ad 26)), (3, .int v3_1), (4, .int v4_1), (5, .int v5_2), (6, .int v6_2), (7, .int v7_2), (9, .int v9_1)] [] M3 (kq v5_2 v6_2 v7_2)) (fun v5_2 v6_2 v7_2 => ?_) (fun k_2 hk_2 => ?_)
  refine G_aload_n dX0_bestWith_111 2 rfl ?_
  refine G_callVN_IM (m_Pa_forward M3) cal_Pa_forward ⟨Nat.le_of_ble_eq_true rfl, Nat.le_of_ble_eq_true rfl⟩ wn_807 hclX3 (by decide) rfl [] rfl rfl rfl (Nat.le_of_ble_eq_true rfl) dX0_bestWith_112 (fun r_1 M4 => ?_)
  refine G_istore dX0_bestWith_115 (by decide) (L' := [(8, .int r_1), (0, .ref (ad 20)), (1, .ref (ad 1)), (2, .ref (ad 26)), (3, .int v3_1), (4, .int v4_1), (5, .int v5_2), (6, .int v6_2), (7, .int v7_2), (9, .int v9_1)]) rfl ?_
  refine G_iinc (v9_1 + 1) dX0_bestWith_117 9 rfl rfl (by decide) (L' := [(9, .int (v9_1 + 1)), (8, .int r_1), (0, .ref (ad 20)), (1, .ref (ad 1)), (2, .ref (ad 26)), (3, .int v3_1), (4, .int v4_1), (5, .int v5_2), (6, .int v6_2), (7, .int v7_2)]) rfl ?_
  refine G_goto 23 dX0_bestWith_120 (by decide) ?_
  refine G_sub [2, 3, 4, 5, 6, 7, 8, 9, 1, 0] rfl ?_
  exact hag (v5_2, v6_2, v7_2, r_1, v9_1 + 1, M4)
  refine G_jp (fun kq => G X ad mi_Bl_bestWith (φIM) 90 [(0, .ref (ad 20)), (1, .ref (ad 1)), (2, .ref (ad 26)), (3, .int v3_1), (4, .int v4_1), (5, .int v5_1), (6, .int v6_1), (7, .int v7_1), (9, .int v9_1), (10, .int s_1)] [] M3 (kq)) ?_ (fun k_3 hk_3 => ?_)
  refine G_iload dX0_bestWith_90 9 rfl ?_
  refine G_if_lt 111 dX0_bestWith_92 (by decide) (fun _ => ?_) (fun _ => ?_)
  refine G_sub [0, 1, 2, 3, 4, 5, 6, 7, 8] rfl ?_
  exact hk_2 v5_1 v6_1 v7_1
  refine G_iload dX0_bestWith_95 7 rfl ?_
  refine G_if_lt 107 dX0_bestWith_97 (by decide) (fun _ => ?_) (fun _ => ?_)
  refine G_iload dX0_bestWith_107 9 rfl ?_
  refine G_istore dX0_bestWith_109 (by decide) (L' := [(7, .int s_1), (0, .ref (ad 20)), (1, .ref (ad 1)), (2, .ref (ad 26)), (3, .int v3_1), (4, .int v4_1), (5, .int v5_1), (6, .int v6_1), (9, .int v9_1), (10, .int s_1)]) rfl ?_
  refine G_sub [1, 2, 3, 4, 5, 6, 7, 0, 8] rfl ?_
  exact hk_2 v5_1 v6_1 s_1
  refine G_iload dX0_bestWith_100 9 rfl ?_
  refine G_iload dX0_bestWith_102 7 rfl ?_
  refine G_icmp_ge 111 dX0_bestWith_104 (by decide) (fun _ => ?_) (fun _ => ?_)
  refine G_sub [0, 1, 2, 3, 4, 5, 6, 7, 8] rfl ?_
  exact hk_2 v5_1 v6_1 v7_1
  refine G_iload dX0_bestWith_107 9 rfl ?_
  refine G_istore dX0_bestWith_109 (by decide) (L' := [(7, .int s_1), (0, .ref (ad 20)), (1, .ref (ad 1)), (2, .ref (ad 26)), (3, .int v3_1), (4, .int v4_1), (5, .int v5_1), (6, .int v6_1), (9, .int v9_1), (10, .int s_1)]) rfl ?_
  refine G_sub [1, 2, 3, 4, 5, 6, 7, 0, 8] rfl ?_
  exact hk_2 v5_1 v6_1 s_1
  refine G_if_lt 90 dX0_bestWith_58 (by decide) (fun _ => ?_) (fun _ => ?_)
  refine G_sub [1, 2, 3, 4, 5, 6, 7, 8, 9, 0] rfl ?_
  exact hk_3
  refine G_iload dX0_bestWith_61 7 rfl ?_
  refine G_jp (fun kq => G X ad mi_Bl_bestWith (φIM) 73 [(0, .ref (ad 20)), (1, .ref (ad 1)), (2, .ref (ad 26)), (3, .int v3_1), (4, .int v4_1), (6, .int v6_1), (9, .int v9_1), (10, .int s_1)] [] M3 (kq)) ?_ (fun k_4 hk_4 => ?_)
  refine G_iload dX0_bestWith_73 5 rfl ?_
  refine G_istore dX0_bestWith_75 (by decide) (L' := [(7, .int v6_1), (0, .ref (ad 20)), (1, .ref (ad 1)), (2, .ref (ad 26)), (3, .int v3_1), (4, .int v4_1), (6, .int v6_1), (9, .int v9_1), (10, .int s_1)]) rfl ?_
  refine G_iload dX0_bestWith_77 8 rfl ?_
  refine G_istore dX0_bestWith_79 (by decide) (L' := [(6, .int s_1), (7, .int v6_1), (0, .ref (ad 20)), (1, .ref (ad 1)), (2, .ref (ad 26)), (3, .int v3_1), (4, .int v4_1), (9, .int v9_1), (10, .int s_1)]) rfl ?_
  refine G_aload_n dX0_bestWith_81 4 rfl ?_
  refine G_callVN_I (m_Pa_number 26 isP_26 M3) cal_Pa_number ⟨Nat.le_of_ble_eq_true rfl, Nat.le_of_ble_eq_true rfl⟩ wn_806 hclX3 (by decide) rfl [] rfl rfl rfl (Nat.le_of_ble_eq_true rfl) dX0_bestWith_82 (fun r_2 => ?_)
  refine G_istore dX0_bestWith_85 (by decide) (L' := [(5, .int r_2), (6, .int s_1), (7, .int v6_1), (0, .ref (ad 20)), (1, .ref (ad 1)), (2, .ref (ad 26)), (3, .int v3_1), (4, .int v4_1), (9, .int v9_1), (10, .int s_1)]) rfl ?_
  refine G_goto 111 dX0_bestWith_87 (by decide) ?_
  refine G_sub [3, 4, 5, 6, 7, 0, 1, 2, 8] rfl ?_
  exact hk_2 r_2 s_1 v6_1
  refine G_if_lt 73 dX0_bestWith_63 (by decide) (fun _ => ?_) (fun _ => ?_)
  refine G_sub [1, 2, 3, 4, 5, 7, 9, 0] rfl ?_
  exact hk_4
  refine G_iload dX0_bestWith_66 0 rfl ?_
  refine G_iload dX0_bestWith_68 7 rfl ?_
  refine G_icmp_ge 90 dX0_bestWith_70 (by decide) (fun _ => ?_) (fun _ => ?_)
  refine G_sub [1, 2, 3, 4, 5, 6, 7, 8, 9, 0] rfl ?_
  exact hk_3
  refine G_sub [1, 2, 3, 4, 5, 7, 9, 0] rfl ?_
  exact hk_4
  refine G_icmp_ne 53 dX0_bestWith_41 (by decide) (fun _ => ?_) (fun _ => ?_)
  refine G_aload_n dX0_bestWith_44 0 rfl ?_
  refine G_aload_n dX0_bestWith_45 1 rfl ?_
  refine G_aload_n dX0_bestWith_46 2 rfl ?_
  refine G_callV_IM (m_Bl_misfits M2) cal_Bl_misfits ⟨Nat.le_of_ble_eq_true rfl, Nat.le_of_ble_eq_true rfl⟩ wd_805 hclX0 (by decide) rfl [.ref (ad 1), .ref (ad 26)] rfl rfl rfl (Nat.le_of_ble_eq_true rfl) dX0_bestWith_47 (fun r_3 M5 => ?_)
  refine G_goto 54 dX0_bestWith_50 (by decide) ?_
  refine G_sub [0, 1, 2, 3, 4, 5, 6, 7, 9] rfl ?_
  exact hk_1 r_3 M5
  refine G_iconst (v := -1) dX0_bestWith_53 rfl ?_
  refine G_sub [0, 1, 2, 3, 4, 5, 6, 7, 9] rfl ?_
  exact hk_1 (-1) M2

set_option maxRecDepth 100000 in
set_option maxHeartbeats 4000000 in
theorem m_Bl_bestWith (v3 : Int32) (v4 : Int32) (M : Mem) : MC mi_Bl_bestWith (φIM) (fun ad => [.ref (ad 20), .ref (ad 1), .ref (ad 26), .int v3, .int v4]) M (Bl_bestWith v3 v4 M) := by
  refine MC_of rfl (by decide +kernel) (fun ad => [(0, .ref (ad 20)), (1, .ref (ad 1)), (2, .ref (ad 26)), (3, .int v3), (4, .int v4)]) (fun _ => rfl) (fun _ => Nat.le_of_ble_eq_true rfl) (fun X ad => ?_)
  show G X ad mi_Bl_bestWith (φIM) 0 [(0, .ref (ad 20)), (1, .ref (ad 1)), (2, .ref (ad 26)), (3, .int v3), (4, .int v4)] [] M _
  unfold Bl_bestWith
  refine G_iconst (v := 0) dX0_bestWith_0 rfl ?_
  refine G_istore dX0_bestWith_1 (by decide) (L' := [(5, .int 0), (0, .ref (ad 20)), (1, .ref (ad 1)), (2, .ref (ad 26)), (3, .int v3), (4, .int v4)]) rfl ?_
  refine G_iconst (v := -1) dX0_bestWith_3 rfl ?_
  refine G_istore dX0_bestWith_4 (by decide) (L' := [(6, .int (-1)), (5, .int 0), (0, .ref (ad 20)), (1, .ref (ad 1)), (2, .ref (ad 26)), (3, .int v3), (4, .int v4)]) rfl ?_
  refine G_iconst (v := -1) dX0_bestWith_6 rfl ?_
  refine G_istore dX0_bestWith_7 (by decide) (L' := [(7, .int (-1)), (6, .int (-1)), (5, .int 0), (0, .ref (ad 20)), (1, .ref (ad 1)), (2, .ref (ad 26)), (3, .int v3), (4, .int v4)]) rfl ?_
  refine G_aload_n dX0_bestWith_9 5 rfl ?_
  refine G_aload_n dX0_bestWith_10 4 rfl ?_
  refine G_getIN hclX7 (by decide) rfl 2 (by decide) rfl wn_148 dX0_bestWith_11 ?_
  refine G_callVN_V (m_Pa_allInOne 26 isP_26 _ M) cal_Pa_allInOne ⟨Nat.le_of_ble_eq_true rfl, Nat.le_of_ble_eq_true rfl⟩ wn_804 hclX3 (by decide) rfl [.int (M 1 2)] rfl rfl rfl (Nat.le_of_ble_eq_true rfl) dX0_bestWith_14 (fun M1 => ?_)
  refine G_iconst (v := 1) dX0_bestWith_17 rfl ?_
  refine G_istore dX0_bestWith_18 (by decide) (L' := [(8, .int 1), (7, .int (-1)), (6, .int (-1)), (5, .int 0), (0, .ref (ad 20)), (1, .ref (ad 1)), (2, .ref (ad 26)), (3, .int v3), (4, .int v4)]) rfl ?_
  refine G_iconst (v := 0) dX0_bestWith_20 rfl ?_
  refine G_istore dX0_bestWith_21 (by decide) (L' := [(9, .int 0), (8, .int 1), (7, .int (-1)), (6, .int (-1)), (5, .int 0), (0, .ref (ad 20)), (1, .ref (ad 1)), (2, .ref (ad 26)), (3, .int v3), (4, .int v4)]) rfl ?_
  refine G_sub [5, 6, 7, 8, 9, 4, 3, 2, 1, 0] rfl ?_
  refine w_Bl_bestWith_L23 X ad v3 v4 _ (fun v5_3 v6_3 v7_3 M6 => ?_) _ _
  refine G_iload dX0_bestWith_123 0 rfl ?_
  refine G_if_ne 131 dX0_bestWith_125 (by decide) (fun _ => ?_) (fun _ => ?_)
  refine G_iload dX0_bestWith_128 1 rfl ?_
  exact G_ireturn rfl rfl dX0_bestWith_130 rfl
  refine G_iload dX0_bestWith_131 0 rfl ?_
  refine G_iconst (v := 1) dX0_bestWith_133 rfl ?_
  refine G_icmp_ne 140 dX0_bestWith_134 (by decide) (fun _ => ?_) (fun _ => ?_)
  refine G_iload dX0_bestWith_137 2 rfl ?_
  exact G_ireturn rfl rfl dX0_bestWith_139 rfl
  refine G_iload dX0_bestWith_140 3 rfl ?_
  refine G_if_ge 150 dX0_bestWith_142 (by decide) (fun _ => ?_) (fun _ => ?_)
  refine G_iload dX0_bestWith_150 3 rfl ?_
  refine G_iload dX0_bestWith_152 2 rfl ?_
  refine G_isub dX0_bestWith_154 ?_
  exact G_ireturn rfl rfl dX0_bestWith_155 rfl
  refine G_bipush (v := -9) dX0_bestWith_145 rfl ?_
  refine G_goto 155 dX0_bestWith_147 (by decide) ?_
  exact G_ireturn rfl rfl dX0_bestWith_155 rfl

set_option maxRecDepth 100000 in
set_option maxHeartbeats 4000000 in
theorem m_SP_least (v1 : Int32) (v2 : Int32) (M : Mem) : MC mi_SP_least (φIM) (fun ad => [.ref (ad 0), .int v1, .int v2]) M (SP_least v1 v2 M) := by
  refine MC_of rfl (by decide +kernel) (fun ad => [(0, .ref (ad 0)), (1, .int v1), (2, .int v2)]) (fun _ => rfl) (fun _ => Nat.le_of_ble_eq_true rfl) (fun X ad => ?_)
  show G X ad mi_SP_least (φIM) 0 [(0, .ref (ad 0)), (1, .int v1), (2, .int v2)] [] M _
  unfold SP_least
  refine G_iload_n dX9_least_0 1 rfl ?_
  refine G_iconst (v := 1) dX9_least_1 rfl ?_
  refine G_icmp_ge 12 dX9_least_2 (by decide) (fun _ => ?_) (fun _ => ?_)
  refine G_iload_n dX9_least_12 1 rfl ?_
  refine G_aload_n dX9_least_13 0 rfl ?_
  refine G_getR hclX9 (by decide) rfl 0 (by decide) rfl wd_307 dX9_least_14 ?_
  refine G_getIN hclX7 (by decide) rfl 2 (by decide) rfl wn_147 dX9_least_17 ?_
  refine G_icmp_le 30 dX9_least_20 (by decide) (fun _ => ?_) (fun _ => ?_)
  refine G_iload_n dX9_least_30 2 rfl ?_
  refine G_jp (fun kq => G X ad mi_SP_least (φIM) 39 [(0, .ref (ad 0))] [] M (kq)) ?_ (fun k_1 hk_1 => ?_)
  refine G_aload_n dX9_least_39 0 rfl ?_
  refine G_bipush (v := -2) dX9_least_40 rfl ?_
  refine G_callV_IM (m_SP_refuse _ M) cal_SP_refuse ⟨Nat.le_of_ble_eq_true rfl, Nat.le_of_ble_eq_true rfl⟩ wd_351 hclX9 (by decide) rfl [.int (-2)] rfl rfl rfl (Nat.le_of_ble_eq_true rfl) dX9_least_42 (fun r_1 M1 => ?_)
  exact G_ireturn rfl rfl dX9_least_45 rfl
  refine G_if_lt 39 dX9_least_31 (by decide) (fun _ => ?_) (fun _ => ?_)
  refine G_sub [0] rfl ?_
  exact hk_1
  refine G_iload_n dX9_least_34 2 rfl ?_
  refine G_iconst (v := 2) dX9_least_35 rfl ?_
  refine G_icmp_le 46 dX9_least_36 (by decide) (fun _ => ?_) (fun _ => ?_)
  refine G_aload_n dX9_least_46 0 rfl ?_
  refine G_aload_n dX9_least_47 0 rfl ?_
  refine G_getI hclX9 (by decide) rfl 12 (by decide) rfl wd_319 dX9_least_48 ?_
  refine G_callV_V (m_SP_lookAt _ M) cal_SP_lookAt ⟨Nat.le_of_ble_eq_true rfl, Nat.le_of_ble_eq_true rfl⟩ wd_468 hclX9 (by decide) rfl [.int (M 0 12)] rfl rfl rfl (Nat.le_of_ble_eq_true rfl) dX9_least_51 (fun M2 => ?_)
  refine G_aload_n dX9_least_54 0 rfl ?_
  refine G_getR hclX9 (by decide) rfl 6 (by decide) rfl wd_313 dX9_least_55 ?_
  refine G_aload_n dX9_least_58 0 rfl ?_
  refine G_getR hclX9 (by decide) rfl 0 (by decide) rfl wd_307 dX9_least_59 ?_
  refine G_aload_n dX9_least_62 0 rfl ?_
  refine G_getR hclX9 (by decide) rfl 8 (by decide) rfl wd_315 dX9_least_63 ?_
  refine G_iload_n dX9_least_66 1 rfl ?_
  refine G_iload_n dX9_least_67 2 rfl ?_
  refine G_callVN_IM (m_Bl_bestWith _ _ M2) cal_Bl_bestWith ⟨Nat.le_of_ble_eq_true rfl, Nat.le_of_ble_eq_true rfl⟩ wn_800 hclX0 (by decide) rfl [.ref (ad 1), .ref (ad 26), .int v1, .int v2] rfl rfl rfl (Nat.le_of_ble_eq_true rfl) dX9_least_68 (fun r_2 M3 => ?_)
  exact G_ireturn rfl rfl dX9_least_71 rfl
  refine G_sub [0] rfl ?_
  exact hk_1
  refine G_aload_n dX9_least_23 0 rfl ?_
  refine G_bipush (v := -6) dX9_least_24 rfl ?_
  refine G_callV_IM (m_SP_refuse _ M) cal_SP_refuse ⟨Nat.le_of_ble_eq_true rfl, Nat.le_of_ble_eq_true rfl⟩ wd_351 hclX9 (by decide) rfl [.int (-6)] rfl rfl rfl (Nat.le_of_ble_eq_true rfl) dX9_least_26 (fun r_3 M4 => ?_)
  exact G_ireturn rfl rfl dX9_least_29 rfl
  refine G_aload_n dX9_least_5 0 rfl ?_
  refine G_bipush (v := -4) dX9_least_6 rfl ?_
  refine G_callV_IM (m_SP_refuse _ M) cal_SP_refuse ⟨Nat.le_of_ble_eq_true rfl, Nat.le_of_ble_eq_true rfl⟩ wd_351 hclX9 (by decide) rfl [.int (-4)] rfl rfl rfl (Nat.le_of_ble_eq_true rfl) dX9_least_8 (fun r_4 M5 => ?_)
  exact G_ireturn rfl rfl dX9_least_11 rfl

set_option maxRecDepth 100000 in
set_option maxHeartbeats 4000000 in
theorem m_Bl_gainOf (v3 : Int32) (v4 : Int32) (v5 : Int32) (M : Mem) : MC mi_Bl_gainOf (φI M) (fun ad => [.ref (ad 20), .ref (ad 1), .ref (ad 26), .int v3, .int v4, .int v5]) M (Bl_gainOf v3 v4 v5 M) := by
  refine MC_of rfl (by decide +kernel) (fun ad => [(0, .ref (ad 20)), (1, .ref (ad 1)), (2, .ref (ad 26)), (3, .int v3), (4, .int v4), (5, .int v5)]) (fun _ => rfl) (fun _ => Nat.le_of_ble_eq_true rfl) (fun X ad => ?_)
  show G X ad mi_Bl_gainOf (φI M) 0 [(0, .ref (ad 20)), (1, .ref (ad 1)), (2, .ref (ad 26)), (3, .int v3), (4, .int v4), (5, .int v5)] [] M _
  unfold Bl_gainOf
  refine G_aload_n dX0_gainOf_0 2 rfl ?_
  refine G_iload_n dX0_gainOf_1 3 rfl ?_
  refine G_callVN_I (m_Pa_of 26 isP_26 _ M) cal_Pa_of ⟨Nat.le_of_ble_eq_true rfl, Nat.le_of_ble_eq_true rfl⟩ wn_766 hclX3 (by decide) rfl [.int v3] rfl rfl rfl (Nat.le_of_ble_eq_true rfl) dX0_gainOf_2 (fun r_1 => ?_)
  refine G_istore dX0_gainOf_5 (by decide) (L' := [(6, .int r_1), (0, .ref (ad 20)), (1, .ref (ad 1)), (2, .ref (ad 26)), (3, .int v3), (4, .int v4), (5, .int v5)]) rfl ?_
  refine G_aload_n dX0_gainOf_7 3 rfl ?_
  refine G_iload dX0_gainOf_8 5 rfl ?_
  refine G_callVN_I (m_Pa_of 26 isP_26 _ M) cal_Pa_of ⟨Nat.le_of_ble_eq_true rfl, Nat.le_of_ble_eq_true rfl⟩ wn_766 hclX3 (by decide) rfl [.int v4] rfl rfl rfl (Nat.le_of_ble_eq_true rfl) dX0_gainOf_10 (fun r_2 => ?_)
  refine G_istore dX0_gainOf_13 (by decide) (L' := [(7, .int r_2), (6, .int r_1), (0, .ref (ad 20)), (1, .ref (ad 1)), (2, .ref (ad 26)), (3, .int v3), (4, .int v4), (5, .int v5)]) rfl ?_
  refine G_aload_n dX0_gainOf_15 2 rfl ?_
  refine G_iload dX0_gainOf_16 7 rfl ?_
  refine G_iload dX0_gainOf_18 1 rfl ?_
  refine G_iload dX0_gainOf_20 0 rfl ?_
  refine G_iconst (v := 0) dX0_gainOf_22 rfl ?_
  refine G_callV_I (m_Bl_misfit _ _ _ _ M) cal_Bl_misfit ⟨Nat.le_of_ble_eq_true rfl, Nat.le_of_ble_eq_true rfl⟩ wd_791 hclX0 (by decide) rfl [.int v5, .int r_1, .int r_2, .int 0] rfl rfl rfl (Nat.le_of_ble_eq_true rfl) dX0_gainOf_23 (fun r_3 => ?_)
  refine G_aload_n dX0_gainOf_26 2 rfl ?_
  refine G_iload dX0_gainOf_27 7 rfl ?_
  refine G_iload dX0_gainOf_29 1 rfl ?_
  refine G_iload dX0_gainOf_31 0 rfl ?_
  refine G_aload_n dX0_gainOf_33 3 rfl ?_
  refine G_iload dX0_gainOf_34 7 rfl ?_
  refine G_iload_n dX0_gainOf_36 5 rfl ?_
  refine G_iload dX0_gainOf_37 6 rfl ?_
  refine G_callVN_I (m_To_tied _ _ _ M) cal_To_tied ⟨Nat.le_of_ble_eq_true rfl, Nat.le_of_ble_eq_true rfl⟩ wn_771 hclX7 (by decide) rfl [.int v5, .int v3, .int v4] rfl rfl rfl (Nat.le_of_ble_eq_true rfl) dX0_gainOf_39 (fun r_4 => ?_)
  refine G_jp (fun kq => ∀ (s_1 : Int32), G X ad mi_Bl_gainOf (φI M) 50 [] [.int s_1, .int r_2, .int r_1, .int v5, .ref (ad 20), .int r_3] M (kq s_1)) (fun s_1 => ?_) (fun k_1 hk_1 => ?_)
  refine G_callV_I (m_Bl_misfit _ _ _ _ M) cal_Bl_misfit ⟨Nat.le_of_ble_eq_true rfl, Nat.le_of_ble_eq_true rfl⟩ wd_791 hclX0 (by decide) rfl [.int v5, .int r_1, .int r_2, .int s_1] rfl rfl rfl (Nat.le_of_ble_eq_true rfl) dX0_gainOf_50 (fun r_5 => ?_)
  refine G_isub dX0_gainOf_53 ?_
  exact G_ireturn rfl rfl dX0_gainOf_54 rfl
  refine G_if_eq 49 dX0_gainOf_42 (by decide) (fun _ => ?_) (fun _ => ?_)
  refine G_iconst (v := 1) dX0_gainOf_49 rfl ?_
  refine G_sub [] rfl ?_
  exact hk_1 1
  refine G_iconst (v := -1) dX0_gainOf_45 rfl ?_
  refine G_goto 50 dX0_gainOf_46 (by decide) ?_
  refine G_sub [] rfl ?_
  exact hk_1 (-1)

set_option maxRecDepth 100000 in
set_option maxHeartbeats 4000000 in
theorem w_Bl_worstTie_L40 (X : Cx) (ad : Nat → Nat) (v3_3 : Int32) (v6_3 : Int32) (v7_2 : Int32) (M1 : Mem) (kx : Int32 → Int32 → Option (Int32 × Mem)) (hkx : ∀ (e4 : Int32) (e5 : Int32), G X ad mi_Bl_worstTie (φIM) 105 [(0, .ref (ad 20)), (1, .ref (ad 1)), (2, .ref (ad 26)), (3, .int v3_3), (4, .int e4), (5, .int e5), (6, .int v6_3), (7, .int v7_2)] [] M1 (kx e4 e5)) : ∀ (n : Nat) (s : Int32 × Int32 × Int32), G X ad mi_Bl_worstTie (φIM) 40 [(0, .ref (ad 20)), (1, .ref (ad 1)), (2, .ref (ad 26)), (3, .int v3_3), (4, .int s.1), (5, .int s.2.1), (6, .int v6_3), (7, .int v7_2), (8, .int s.2.2)] [] M1 (LOOP (fun aq sq => Bl_worstTie_L40 v6_3 v7_2 M1 kx aq sq.1 sq.2.1 sq.2.2) n s) := by
  refine LOOP_rule (fun (s : Int32 × Int32 × Int32) o => G X ad mi_Bl_worstTie (φIM) 40 [(0, .ref (ad 20)), (1, .ref (ad 1)), (2, .ref (ad 26)), (3, .int v3_3), (4, .int s.1), (5, .int s.2.1), (6, .int v6_3), (7, .int v7_2), (8, .int s.2.2)] [] M1 o) (fun _ => G_none) (fun ag hag s => ?_)
  obtain ⟨v4_3, v5_3, v8_1⟩ := s
  show G X ad mi_Bl_worstTie (φIM) 40 [(0, .ref (ad 20)), (1, .ref (ad 1)), (2, .ref (ad 26)), (3, .int v3_3), (4, .int v4_3), (5, .int v5_3), (6, .int v6_3), (7, .int v7_2), (8, .int v8_1)] [] M1 (Bl_worstTie_L40 v6_3 v7_2 M1 kx ag v4_3 v5_3 v8_1)
  unfold Bl_worstTie_L40
  refine G_iload dX0_worstTie_40 6 rfl ?_
  refine G_iload dX0_worstTie_42 7 rfl ?_
  refine G_icmp_eq 105 dX0_worstTie_44 (by decide) (fun _ => ?_) (fun _ => ?_)
  refine G_sub [0, 1, 2, 3, 4, 5, 6, 7] rfl ?_
  exact hkx v4_3 v5_3
  refine G_iload dX0_worstTie_47 8 rfl ?_
  refine G_iconst (v := 3) dX0_worstTie_49 rfl ?_
  refine G_icmp_ge 105 dX0_worstTie_50 (by decide) (fun _ => ?_) (fun _ => ?_)
  refine G_sub [0, 1, 2, 3, 4, 5, 6, 7] rfl ?_
  exact hkx v4_3 v5_3
  refine G_aload_n dX0_worstTie_53 0 rfl ?_
  refine G_aload_n dX0_worstTie_54 1 rfl ?_
  refine G_aload_n dX0_worstTie_55 2 rfl ?_
  refine G_iload dX0_worstTie_56 6 rfl ?_
  refine G_iload dX0_worstTie_58 7 rfl ?_
  refine G_iload dX0_worstTie_60 8 rfl ?_
  refine G_callV_I (m_Bl_gainOf _ _ _ M1) cal_Bl_gainOf ⟨Nat.le_of_ble_eq_true rfl, Nat.le_of_ble_eq_true rfl⟩ wd_817 hclX0 (by decide) rfl [.ref (ad 1), .ref (ad 26), .int v6_3, .int v7_2, .int v8_1] rfl rfl rfl (Nat.le_of_ble_eq_true rfl) dX0_worstTie_62 (fun r_1 => ?_)
  refine G_istore dX0_worstTie_65 (by decide) (L' := [(9, .int r_1), (0, .ref (ad 20)), (1, .ref (ad 1)), (2, .ref (ad 26)), (3, .int v3_3), (4, .int v4_3), (5, .int v5_3), (6, .int v6_3), (7, .int v7_2), (8, .int v8_1)]) rfl ?_
  refine G_iload dX0_worstTie_67 5 rfl ?_
  refine G_jp (fun kq => G X ad mi_Bl_worstTie (φIM) 79 [(0, .ref (ad 20)), (1, .ref (ad 1)), (2, .ref (ad 26)), (3, .int v3_3), (6, .int v6_3), (7, .int v7_2), (8, .int v8_1), (9, .int r_1)] [] M1 (kq)) ?_ (fun k_1 hk_1 => ?_)
  refine G_bipush (v := 100) dX0_worstTie_79 rfl ?_
  refine G_iload dX0_worstTie_81 4 rfl ?_
  refine G_imul dX0_worstTie_83 ?_
  refine G_bipush (v := 10) dX0_worstTie_84 rfl ?_
  refine G_iload dX0_worstTie_86 5 rfl ?_
  refine G_imul dX0_worstTie_88 ?_
  refine G_iadd dX0_worstTie_89 ?_
  refine G_iload dX0_worstTie_90 6 rfl ?_
  refine G_iadd dX0_worstTie_92 ?_
  refine G_nmI (fun v4_4 => ?_)
  refine G_istore dX0_worstTie_93 (by decide) (L' := [(4, .int v4_4), (0, .ref (ad 20)), (1, .ref (ad 1)), (2, .ref (ad 26)), (3, .int v3_3), (6, .int v6_3), (7, .int v7_2), (8, .int v8_1), (9, .int r_1)]) rfl ?_
  refine G_iload dX0_worstTie_95 8 rfl ?_
  refine G_istore dX0_worstTie_97 (by decide) (L' := [(5, .int r_1), (4, .int v4_4), (0, .ref (ad 20)), (1, .ref (ad 1)), (2, .ref (ad 26)), (3, .int v3_3), (6, .int v6_3), (7, .int v7_2), (8, .int v8_1), (9, .int r_1)]) rfl ?_
  refine G_iinc (v8_1 + 1) dX0_worstTie_99 8 rfl rfl (by decide) (L' := [(8, .int (v8_1 + 1)), (5, .int r_1), (4, .int v4_4), (0, .ref (ad 20)), (1, .ref (ad 1)), (2, .ref (ad 26)), (3, .int v3_3), (6, .int v6_3), (7, .int v7_2), (9, .int r_1)]) rfl ?_
  refine G_goto 40 dX0_worstTie_102 (by decide) ?_
  refine G_sub [3, 4, 5, 6, 2, 1, 7, 8, 0] rfl ?_
  exact hag (v4_4, r_1, v8_1 + 1)
  refine G_if_lt 79 dX0_worstTie_69 (by decide) (fun _ => ?_) (fun _ => ?_)
  refine G_sub [1, 2, 3, 4, 7, 8, 9, 0] rfl ?_
  exact hk_1
  refine G_iload dX0_worstTie_72 0 rfl ?_
  refine G_iload dX0_worstTie_74 6 rfl ?_
  refine G_icmp_le 99 dX0_worstTie_76 (by decide) (fun _ => ?_) (fun _ => ?_)
  refine G_iinc (v8_1 + 1) dX0_worstTie_99 9 rfl rfl (by decide) (L' := [(8, .int (v8_1 + 1)), (9, .int r_1), (0, .ref (ad 20)), (1, .ref (ad 1)), (2, .ref (ad 26)), (3, .int v3_3), (4, .int v4_3), (5, .int v5_3), (6, .int v6_3), (7, .int v7_2)]) rfl ?_
  refine G_goto 40 dX0_worstTie_102 (by decide) ?_
  refine G_sub [2, 3, 4, 5, 6, 7, 8, 9, 0] rfl ?_
  exact hag (v4_3, v5_3, v8_1 + 1)
  refine G_sub [1, 2, 3, 4, 7, 8, 9, 0] rfl ?_
  exact hk_1

set_option maxRecDepth 100000 in
set_option maxHeartbeats 4000000 in
theorem w_Bl_worstTie_L28 (X : Cx) (ad : Nat → Nat) (v3_2 : Int32) (v6_2 : Int32) (M1 : Mem) (kx : Int32 → Int32 → Option (Int32 × Mem)) (hkx : ∀ (e4 : Int32) (e5 : Int32), G X ad mi_Bl_worstTie (φIM) 111 [(0, .ref (ad 20)), (1, .ref (ad 1)), (2, .ref (ad 26)), (3, .int v3_2), (4, .int e4), (5, .int e5), (6, .int v6_2)] [] M1 (kx e4 e5)) : ∀ (n : Nat) (s : Int32 × Int32 × Int32), G X ad mi_Bl_worstTie (φIM) 28 [(0, .ref (ad 20)), (1, .ref (ad 1)), (2, .ref (ad 26)), (3, .int v3_2), (4, .int s.1), (5, .int s.2.1), (6, .int v6_2), (7, .int s.2.2)] [] M1 (LOOP (fun aq sq => Bl_worstTie_L28 v6_2 M1 kx aq sq.1 sq.2.1 sq.2.2) n s) := by
  refine LOOP_rule (fun (s : Int32 × Int32 × Int32) o => G X ad mi_Bl_worstTie (φIM) 28 [(0, .ref (ad 20)), (1, .ref (ad 1)), (2, .ref (ad 26)), (3, .int v3_2), (4, .int s.1), (5, .int s.2.1), (6, .int v6_2), (7, .int s.2.2)] [] M1 o) (fun _ => G_none) (fun ag hag s => ?_)
  obtain ⟨v4_2, v5_2, v7_1⟩ := s
  show G X ad mi_Bl_worstTie (φIM) 28 [(0, .ref (ad 20)), (1, .ref (ad 1)), (2, .ref (ad 26)), (3, .int v3_2), (4, .int v4_2), (5, .int v5_2), (6, .int v6_2), (7, .int v7_1)] [] M1 (Bl_worstTie_L28 v6_2 M1 kx ag v4_2 v5_2 v7_1)
  unfold Bl_worstTie_L28
  refine G_iload dX0_worstTie_28 7 rfl ?_
  refine G_aload_n dX0_worstTie_30 1 rfl ?_
  refine G_getIN hclX7 (by decide) rfl 2 (by decide) rfl wn_148 dX0_worstTie_31 ?_
  refine G_icmp_ge 111 dX0_worstTie_34 (by decide) (fun _ => ?_) (fun _ => ?_)
  refine G_sub [0, 1, 2, 3, 4, 5, 6] rfl ?_
  exact hkx v4_2 v5_2
  refine G_iconst (v := 0) dX0_worstTie_37 rfl ?_
  refine G_istore dX0_worstTie_38 (by decide) (L' := [(8, .int 0), (0, .ref (ad 20)), (1, .ref (ad 1)), (2, .ref (ad 26)), (3, .int v3_2), (4, .int v4_2), (5, .int v5_2), (6, .int v6_2), (7, .int v7_1)]) rfl ?_
  refine G_sub [1, 2, 3, 4, 5, 6, 7, 8, 0] rfl ?_
  refine w_Bl_worstTie_L40 X ad v3_2 v6_2 v7_1 M1 _ (fun v4_5 v5_4 => ?_) _ _
  refine G_iinc (v7_1 + 1) dX0_worstTie_105 7 rfl rfl (by decide) (L' := [(7, .int (v7_1 + 1)), (0, .ref (ad 20)), (1, .ref (ad 1)), (2, .ref (ad 26)), (3, .int v3_2), (4, .int v4_5), (5, .int v5_4), (6, .int v6_2)]) rfl ?_
  refine G_goto 28 dX0_worstTie_108 (by decide) ?_
  refine G_sub [1, 2, 3, 4, 5, 6, 7, 0] rfl ?_
  exact hag (v4_5, v5_4, v7_1 + 1)

set_option maxRecDepth 100000 in
set_option maxHeartbeats 4000000 in
theorem w_Bl_worstTie_L16 (X : Cx) (ad : Nat → Nat) (v3_1 : Int32) (M1 : Mem) (kx : Int32 → Int32 → Option (Int32 × Mem)) (hkx : ∀ (e4 : Int32) (e5 : Int32), G X ad mi_Bl_worstTie (φIM) 117 [(3, .int v3_1), (4, .int e4), (5, .int e5)] [] M1 (kx e4 e5)) : ∀ (n : Nat) (s : Int32 × Int32 × Int32), G X ad mi_Bl_worstTie (φIM) 16 [(0, .ref (ad 20)), (1, .ref (ad 1)), (2, .ref (ad 26)), (3, .int v3_1), (4, .int s.1), (5, .int s.2.1), (6, .int s.2.2)] [] M1 (LOOP (fun aq sq => Bl_worstTie_L16 M1 kx aq sq.1 sq.2.1 sq.2.2) n s) := by
  refine LOOP_rule (fun (s : Int32 × Int32 × Int32) o => G X ad mi_Bl_worstTie (φIM) 16 [(0, .ref (ad 20)), (1, .ref (ad 1)), (2, .ref (ad 26)), (3, .int v3_1), (4, .int s.1), (5, .int s.2.1), (6, .int s.2.2)] [] M1 o) (fun _ => G_none) (fun ag hag s => ?_)
  obtain ⟨v4_1, v5_1, v6_1⟩ := s
  show G X ad mi_Bl_worstTie (φIM) 16 [(0, .ref (ad 20)), (1, .ref (ad 1)), (2, .ref (ad 26)), (3, .int v3_1), (4, .int v4_1), (5, .int v5_1), (6, .int v6_1)] [] M1 (Bl_worstTie_L16 M1 kx ag v4_1 v5_1 v6_1)
  unfold Bl_worstTie_L16
  refine G_iload dX0_worstTie_16 6 rfl ?_
  refine G_aload_n dX0_worstTie_18 1 rfl ?_
  refine G_getIN hclX7 (by decide) rfl 2 (by decide) rfl wn_148 dX0_worstTie_19 ?_
  refine G_icmp_ge 117 dX0_worstTie_22 (by decide) (fun _ => ?_) (fun _ => ?_)
  refine G_sub [3, 4, 5] rfl ?_
  exact hkx v4_1 v5_1
  refine G_iconst (v := 0) dX0_worstTie_25 rfl ?_
  refine G_istore dX0_worstTie_26 (by decide) (L' := [(7, .int 0), (0, .ref (ad 20)), (1, .ref (ad 1)), (2, .ref (ad 26)), (3, .int v3_1), (4, .int v4_1), (5, .int v5_1), (6, .int v6_1)]) rfl ?_
  refine G_sub [1, 2, 3, 4, 5, 6, 7, 0] rfl ?_
  refine w_Bl_worstTie_L28 X ad v3_1 v6_1 M1 _ (fun v4_6 v5_5 => ?_) _ _
  refine G_iinc (v6_1 + 1) dX0_worstTie_111 6 rfl rfl (by decide) (L' := [(6, .int (v6_1 + 1)), (0, .ref (ad 20)), (1, .ref (ad 1)), (2, .ref (ad 26)), (3, .int v3_1), (4, .int v4_6), (5, .int v5_5)]) rfl ?_
  refine G_goto 16 dX0_worstTie_114 (by decide) ?_
  refine G_sub [1, 2, 3, 4, 5, 6, 0] rfl ?_
  exact hag (v4_6, v5_5, v6_1 + 1)

set_option maxRecDepth 100000 in
set_option maxHeartbeats 4000000 in
theorem m_Bl_worstTie (v3 : Int32) (M : Mem) : MC mi_Bl_worstTie (φIM) (fun ad => [.ref (ad 20), .ref (ad 1), .ref (ad 26), .int v3]) M (Bl_worstTie v3 M) := by
  refine MC_of rfl (by decide +kernel) (fun ad => [(0, .ref (ad 20)), (1, .ref (ad 1)), (2, .ref (ad 26)), (3, .int v3)]) (fun _ => rfl) (fun _ => Nat.le_of_ble_eq_true rfl) (fun X ad => ?_)
  show G X ad mi_Bl_worstTie (φIM) 0 [(0, .ref (ad 20)), (1, .ref (ad 1)), (2, .ref (ad 26)), (3, .int v3)] [] M _
  unfold Bl_worstTie
  refine G_aload_n dX0_worstTie_0 0 rfl ?_
  refine G_aload_n dX0_worstTie_1 1 rfl ?_
  refine G_aload_n dX0_worstTie_2 2 rfl ?_
  refine G_callV_V (m_Bl_tallyTies M) cal_Bl_tallyTies ⟨Nat.le_of_ble_eq_true rfl, Nat.le_of_ble_eq_true rfl⟩ wd_784 hclX0 (by decide) rfl [.ref (ad 1), .ref (ad 26)] rfl rfl rfl (Nat.le_of_ble_eq_true rfl) dX0_worstTie_3 (fun M1 => ?_)
  refine G_bipush (v := -9) dX0_worstTie_6 rfl ?_
  refine G_istore dX0_worstTie_8 (by decide) (L' := [(4, .int (-9)), (0, .ref (ad 20)), (1, .ref (ad 1)), (2, .ref (ad 26)), (3, .int v3)]) rfl ?_
  refine G_iconst (v := 0) dX0_worstTie_10 rfl ?_
  refine G_istore dX0_worstTie_11 (by decide) (L' := [(5, .int 0), (4, .int (-9)), (0, .ref (ad 20)), (1, .ref (ad 1)), (2, .ref (ad 26)), (3, .int v3)]) rfl ?_
  refine G_iconst (v := 0) dX0_worstTie_13 rfl ?_
  refine G_istore dX0_worstTie_14 (by decide) (L' := [(6, .int 0), (5, .int 0), (4, .int (-9)), (0, .ref (ad 20)), (1, .ref (ad 1)), (2, .ref (ad 26)), (3, .int v3)]) rfl ?_
  refine G_sub [3, 4, 5, 6, 2, 1, 0] rfl ?_
  refine w_Bl_worstTie_L16 X ad v3 M1 _ (fun v4_7 v5_6 => ?_) _ _
  refine G_iload_n dX0_worstTie_117 0 rfl ?_
  refine G_if_eq 126 dX0_worstTie_118 (by decide) (fun _ => ?_) (fun _ => ?_)
  refine G_iload dX0_worstTie_126 2 rfl ?_
  exact G_ireturn rfl rfl dX0_worstTie_128 rfl
  refine G_iload dX0_worstTie_121 1 rfl ?_
  refine G_goto 128 dX0_worstTie_123 (by decide) ?_
  exact G_ireturn rfl rfl dX0_worstTie_128 rfl

set_option maxRecDepth 100000 in
set_option maxHeartbeats 4000000 in
theorem m_SP_spoils (v1 : Int32) (v2 : Int32) (M : Mem) : MC mi_SP_spoils (φIM) (fun ad => [.ref (ad 0), .int v1, .int v2]) M (SP_spoils v1 v2 M) := by
  refine MC_of rfl (by decide +kernel) (fun ad => [(0, .ref (ad 0)), (1, .int v1), (2, .int v2)]) (fun _ => rfl) (fun _ => Nat.le_of_ble_eq_true rfl) (fun X ad => ?_)
  show G X ad mi_SP_spoils (φIM) 0 [(0, .ref (ad 0)), (1, .int v1), (2, .int v2)] [] M _
  unfold SP_spoils
  refine G_aload_n dX9_spoils_0 0 rfl ?_
  refine G_getR hclX9 (by decide) rfl 8 (by decide) rfl wd_315 dX9_spoils_1 ?_
  refine G_iload_n dX9_spoils_4 1 rfl ?_
  refine G_aload_n dX9_spoils_5 0 rfl ?_
  refine G_getR hclX9 (by decide) rfl 0 (by decide) rfl wd_307 dX9_spoils_6 ?_
  refine G_getIN hclX7 (by decide) rfl 2 (by decide) rfl wn_147 dX9_spoils_9 ?_
  refine G_callVN_IM (m_Pa_readNumber 26 isP_26 _ _ M) cal_Pa_readNumber ⟨Nat.le_of_ble_eq_true rfl, Nat.le_of_ble_eq_true rfl⟩ wn_501 hclX3 (by decide) rfl [.int v1, .int (M 1 2)] rfl rfl rfl (Nat.le_of_ble_eq_true rfl) dX9_spoils_12 (fun r_1 M1 => ?_)
  refine G_if_ne 27 dX9_spoils_15 (by decide) (fun _ => ?_) (fun _ => ?_)
  refine G_ldc wd_812 dX9_spoils_18 ?_
  refine G_aload_n dX9_spoils_20 0 rfl ?_
  refine G_iconst (v := -1) dX9_spoils_21 rfl ?_
  refine G_callV_IM (m_SP_refuse _ M1) cal_SP_refuse ⟨Nat.le_of_ble_eq_true rfl, Nat.le_of_ble_eq_true rfl⟩ wd_351 hclX9 (by decide) rfl [.int (-1)] rfl rfl rfl (Nat.le_of_ble_eq_true rfl) dX9_spoils_22 (fun r_2 M2 => ?_)
  refine G_isub dX9_spoils_25 ?_
  exact G_ireturn rfl rfl dX9_spoils_26 rfl
  refine G_iload_n dX9_spoils_27 2 rfl ?_
  refine G_jp (fun kq => G X ad mi_SP_spoils (φIM) 36 [(0, .ref (ad 0))] [] M1 (kq)) ?_ (fun k_1 hk_1 => ?_)
  refine G_ldc wd_812 dX9_spoils_36 ?_
  refine G_aload_n dX9_spoils_38 0 rfl ?_
  refine G_bipush (v := -2) dX9_spoils_39 rfl ?_
  refine G_callV_IM (m_SP_refuse _ M1) cal_SP_refuse ⟨Nat.le_of_ble_eq_true rfl, Nat.le_of_ble_eq_true rfl⟩ wd_351 hclX9 (by decide) rfl [.int (-2)] rfl rfl rfl (Nat.le_of_ble_eq_true rfl) dX9_spoils_41 (fun r_3 M3 => ?_)
  refine G_isub dX9_spoils_44 ?_
  exact G_ireturn rfl rfl dX9_spoils_45 rfl
  refine G_if_lt 36 dX9_spoils_28 (by decide) (fun _ => ?_) (fun _ => ?_)
  refine G_sub [0] rfl ?_
  exact hk_1
  refine G_iload_n dX9_spoils_31 2 rfl ?_
  refine G_iconst (v := 1) dX9_spoils_32 rfl ?_
  refine G_icmp_le 46 dX9_spoils_33 (by decide) (fun _ => ?_) (fun _ => ?_)
  refine G_aload_n dX9_spoils_46 0 rfl ?_
  refine G_getR hclX9 (by decide) rfl 0 (by decide) rfl wd_307 dX9_spoils_47 ?_
  refine G_getIN hclX7 (by decide) rfl 2 (by decide) rfl wn_147 dX9_spoils_50 ?_
  refine G_iconst (v := 2) dX9_spoils_53 rfl ?_
  refine G_icmp_ge 76 dX9_spoils_54 (by decide) (fun _ => ?_) (fun _ => ?_)
  refine G_aload_n dX9_spoils_76 0 rfl ?_
  refine G_aload_n dX9_spoils_77 0 rfl ?_
  refine G_getI hclX9 (by decide) rfl 12 (by decide) rfl wd_319 dX9_spoils_78 ?_
  refine G_callV_V (m_SP_lookAt _ M1) cal_SP_lookAt ⟨Nat.le_of_ble_eq_true rfl, Nat.le_of_ble_eq_true rfl⟩ wd_468 hclX9 (by decide) rfl [.int (M1 0 12)] rfl rfl rfl (Nat.le_of_ble_eq_true rfl) dX9_spoils_81 (fun M4 => ?_)
  refine G_aload_n dX9_spoils_84 0 rfl ?_
  refine G_getR hclX9 (by decide) rfl 6 (by decide) rfl wd_313 dX9_spoils_85 ?_
  refine G_aload_n dX9_spoils_88 0 rfl ?_
  refine G_getR hclX9 (by decide) rfl 0 (by decide) rfl wd_307 dX9_spoils_89 ?_
  refine G_aload_n dX9_spoils_92 0 rfl ?_
  refine G_getR hclX9 (by decide) rfl 8 (by decide) rfl wd_315 dX9_spoils_93 ?_
  refine G_iload_n dX9_spoils_96 2 rfl ?_
  refine G_jp (fun kq => ∀ (s_1 : Int32), G X ad mi_SP_spoils (φIM) 105 [] [.int s_1, .ref (ad 26), .ref (ad 1), .ref (ad 20)] M4 (kq s_1)) (fun s_1 => ?_) (fun k_2 hk_2 => ?_)
  refine G_callVN_IM (m_Bl_worstTie _ M4) cal_Bl_worstTie ⟨Nat.le_of_ble_eq_true rfl, Nat.le_of_ble_eq_true rfl⟩ wn_813 hclX0 (by decide) rfl [.ref (ad 1), .ref (ad 26), .int s_1] rfl rfl rfl (Nat.le_of_ble_eq_true rfl) dX9_spoils_105 (fun r_4 M5 => ?_)
  exact G_ireturn rfl rfl dX9_spoils_108 rfl
  refine G_if_ne 104 dX9_spoils_97 (by decide) (fun _ => ?_) (fun _ => ?_)
  refine G_iconst (v := 1) dX9_spoils_100 rfl ?_
  refine G_goto 105 dX9_spoils_101 (by decide) ?_
  refine G_sub [] rfl ?_
  exact hk_2 1
  refine G_iconst (v := 0) dX9_spoils_104 rfl ?_
  refine G_sub [] rfl ?_
  exact hk_2 0
  refine G_iload_n dX9_spoils_57 2 rfl ?_
  refine G_if_ne 66 dX9_spoils_58 (by decide) (fun _ => ?_) (fun _ => ?_)
  refine G_bipush (v := -9) dX9_spoils_61 rfl ?_
  refine G_goto 75 dX9_spoils_63 (by decide) ?_
  exact G_ireturn rfl rfl dX9_spoils_75 rfl
  refine G_ldc wd_812 dX9_spoils_66 ?_
  refine G_aload_n dX9_spoils_68 0 rfl ?_
  refine G_bipush (v := -3) dX9_spoils_69 rfl ?_
  refine G_callV_IM (m_SP_refuse _ M1) cal_SP_refuse ⟨Nat.le_of_ble_eq_true rfl, Nat.le_of_ble_eq_true rfl⟩ wd_351 hclX9 (by decide) rfl [.int (-3)] rfl rfl rfl (Nat.le_of_ble_eq_true rfl) dX9_spoils_71 (fun r_5 M6 => ?_)
  refine G_isub dX9_spoils_74 ?_
  exact G_ireturn rfl rfl dX9_spoils_75 rfl
  refine G_sub [0] rfl ?_
  exact hk_1

set_option maxRecDepth 100000 in
set_option maxHeartbeats 4000000 in
theorem m_Nc_append (v1 : Int32) (v2 : Int32) (v3 : Int32) (M : Mem) : MC mi_Nc_append (φV) (fun ad => [.ref (ad 10), .int v1, .int v2, .int v3]) M (Nc_append v1 v2 v3 M) := by
  refine MC_of rfl (by decide +kernel) (fun ad => [(0, .ref (ad 10)), (1, .int v1), (2, .int v2), (3, .int v3)]) (fun _ => rfl) (fun _ => Nat.le_of_ble_eq_true rfl) (fun X ad => ?_)
  show G X ad mi_Nc_append (φV) 0 [(0, .ref (ad 10)), (1, .int v1), (2, .int v2), (3, .int v3)] [] M _
  unfold Nc_append
  refine G_aload_n dX2_append_0 0 rfl ?_
  refine G_getR hclX2 (by decide) rfl 0 (by decide) rfl wd_206 dX2_append_1 ?_
  refine G_aload_n dX2_append_4 0 rfl ?_
  refine G_getI hclX2 (by decide) rfl 3 (by decide) rfl wd_209 dX2_append_5 ?_
  refine G_iload_n dX2_append_8 1 rfl ?_
  refine G_callSN_V (m_SP_put 11 isA_11 _ _ M) cal_SP_put ⟨Nat.le_of_ble_eq_true rfl, Nat.le_of_ble_eq_true rfl⟩ wn_829 rfl rfl (Nat.le_of_ble_eq_true rfl) dX2_append_9 (fun M1 => ?_)
  refine G_aload_n dX2_append_12 0 rfl ?_
  refine G_getR hclX2 (by decide) rfl 1 (by decide) rfl wd_207 dX2_append_13 ?_
  refine G_aload_n dX2_append_16 0 rfl ?_
  refine G_getI hclX2 (by decide) rfl 3 (by decide) rfl wd_209 dX2_append_17 ?_
  refine G_iload_n dX2_append_20 2 rfl ?_
  refine G_callSN_V (m_SP_put 12 isA_12 _ _ M1) cal_SP_put ⟨Nat.le_of_ble_eq_true rfl, Nat.le_of_ble_eq_true rfl⟩ wn_829 rfl rfl (Nat.le_of_ble_eq_true rfl) dX2_append_21 (fun M2 => ?_)
  refine G_aload_n dX2_append_24 0 rfl ?_
  refine G_getR hclX2 (by decide) rfl 2 (by decide) rfl wd_208 dX2_append_25 ?_
  refine G_aload_n dX2_append_28 0 rfl ?_
  refine G_getI hclX2 (by decide) rfl 3 (by decide) rfl wd_209 dX2_append_29 ?_
  refine G_iload_n dX2_append_32 3 rfl ?_
  refine G_jp (fun kq => ∀ (s_1 : Int32), G X ad mi_Nc_append (φV) 41 [(0, .ref (ad 10))] [.int s_1, .int (M2 10 3), .ref (ad 13)] M2 (kq s_1)) (fun s_1 => ?_) (fun k_1 hk_1 => ?_)
  refine G_callSN_V (m_SP_put 13 isA_13 _ _ M2) cal_SP_put ⟨Nat.le_of_ble_eq_true rfl, Nat.le_of_ble_eq_true rfl⟩ wn_829 rfl rfl (Nat.le_of_ble_eq_true rfl) dX2_append_41 (fun M3 => ?_)
  refine G_aload_n dX2_append_44 0 rfl ?_
  refine G_dup dX2_append_45 rfl ?_
  refine G_getI hclX2 (by decide) rfl 3 (by decide) rfl wd_209 dX2_append_46 ?_
  refine G_iconst (v := 1) dX2_append_49 rfl ?_
  refine G_iadd dX2_append_50 ?_
  refine G_put hclX2 (by decide) rfl 3 (by decide) rfl rfl (by decide +kernel) wd_209 dX2_append_51 (fun M4 => ?_)
  exact G_return rfl rfl dX2_append_54 rfl
  refine G_if_eq 40 dX2_append_33 (by decide) (fun _ => ?_) (fun _ => ?_)
  refine G_iconst (v := 0) dX2_append_40 rfl ?_
  refine G_sub [0] rfl ?_
  exact hk_1 0
  refine G_iconst (v := 1) dX2_append_36 rfl ?_
  refine G_goto 41 dX2_append_37 (by decide) ?_
  refine G_sub [0] rfl ?_
  exact hk_1 1

set_option maxRecDepth 100000 in
set_option maxHeartbeats 4000000 in
theorem m_SP_newcomer (v1 : Int32) (v2 : Int32) (v3 : Int32) (M : Mem) : MC mi_SP_newcomer (φIM) (fun ad => [.ref (ad 0), .int v1, .int v2, .int v3]) M (SP_newcomer v1 v2 v3 M) := by
  refine MC_of rfl (by decide +kernel) (fun ad => [(0, .ref (ad 0)), (1, .int v1), (2, .int v2), (3, .int v3)]) (fun _ => rfl) (fun _ => Nat.le_of_ble_eq_true rfl) (fun X ad => ?_)
  show G X ad mi_SP_newcomer (φIM) 0 [(0, .ref (ad 0)), (1, .int v1), (2, .int v2), (3, .int v3)] [] M _
  unfold SP_newcomer
  refine G_iload_n dX9_newcomer_0 1 rfl ?_
  refine G_callS_I (m_SP_isKind _ M) cal_SP_isKind ⟨Nat.le_of_ble_eq_true rfl, Nat.le_of_ble_eq_true rfl⟩ wd_465 rfl rfl (Nat.le_of_ble_eq_true rfl) dX9_newcomer_1 (fun r_1 => ?_)
  refine G_jp (fun kq => G X ad mi_SP_newcomer (φIM) 18 [(0, .ref (ad 0))] [] M (kq)) ?_ (fun k_1 hk_1 => ?_)
  refine G_aload_n dX9_newcomer_18 0 rfl ?_
  refine G_iconst (v := -1) dX9_newcomer_19 rfl ?_
  refine G_callV_IM (m_SP_refuse _ M) cal_SP_refuse ⟨Nat.le_of_ble_eq_true rfl, Nat.le_of_ble_eq_true rfl⟩ wd_351 hclX9 (by decide) rfl [.int (-1)] rfl rfl rfl (Nat.le_of_ble_eq_true rfl) dX9_newcomer_20 (fun r_2 M1 => ?_)
  exact G_ireturn rfl rfl dX9_newcomer_23 rfl
  refine G_if_eq 18 dX9_newcomer_4 (by decide) (fun _ => ?_) (fun _ => ?_)
  refine G_sub [0] rfl ?_
  exact hk_1
  refine G_aload_n dX9_newcomer_7 0 rfl ?_
  refine G_getR hclX9 (by decide) rfl 0 (by decide) rfl wd_307 dX9_newcomer_8 ?_
  refine G_iload_n dX9_newcomer_11 2 rfl ?_
  refine G_callVN_I (m_To_lives _ M) cal_To_lives ⟨Nat.le_of_ble_eq_true rfl, Nat.le_of_ble_eq_true rfl⟩ wn_369 hclX7 (by decide) rfl [.int v2] rfl rfl rfl (Nat.le_of_ble_eq_true rfl) dX9_newcomer_12 (fun r_3 => ?_)
  refine G_if_ne 24 dX9_newcomer_15 (by decide) (fun _ => ?_) (fun _ => ?_)
  refine G_sub [0] rfl ?_
  exact hk_1
  refine G_aload_n dX9_newcomer_24 0 rfl ?_
  refine G_getR hclX9 (by decide) rfl 3 (by decide) rfl wd_310 dX9_newcomer_25 ?_
  refine G_getIN hclX2 (by decide) rfl 3 (by decide) rfl wn_210 dX9_newcomer_28 ?_
  refine G_bipush (v := 6) dX9_newcomer_31 rfl ?_
  refine G_icmp_lt 43 dX9_newcomer_33 (by decide) (fun _ => ?_) (fun _ => ?_)
  refine G_aload_n dX9_newcomer_43 0 rfl ?_
  refine G_getR hclX9 (by decide) rfl 3 (by decide) rfl wd_310 dX9_newcomer_44 ?_
  refine G_iload_n dX9_newcomer_47 1 rfl ?_
  refine G_iload_n dX9_newcomer_48 2 rfl ?_
  refine G_iload_n dX9_newcomer_49 3 rfl ?_
  refine G_callVN_V (m_Nc_append _ _ _ M) cal_Nc_append ⟨Nat.le_of_ble_eq_true rfl, Nat.le_of_ble_eq_true rfl⟩ wn_825 hclX2 (by decide) rfl [.int v1, .int v2, .int v3] rfl rfl rfl (Nat.le_of_ble_eq_true rfl) dX9_newcomer_50 (fun M2 => ?_)
  refine G_aload_n dX9_newcomer_53 0 rfl ?_
  refine G_getR hclX9 (by decide) rfl 3 (by decide) rfl wd_310 dX9_newcomer_54 ?_
  refine G_getIN hclX2 (by decide) rfl 3 (by decide) rfl wn_210 dX9_newcomer_57 ?_
  exact G_ireturn rfl rfl dX9_newcomer_60 rfl
  refine G_aload_n dX9_newcomer_36 0 rfl ?_
  refine G_bipush (v := -6) dX9_newcomer_37 rfl ?_
  refine G_callV_IM (m_SP_refuse _ M) cal_SP_refuse ⟨Nat.le_of_ble_eq_true rfl, Nat.le_of_ble_eq_true rfl⟩ wd_351 hclX9 (by decide) rfl [.int (-6)] rfl rfl rfl (Nat.le_of_ble_eq_true rfl) dX9_newcomer_39 (fun r_4 M3 => ?_)
  exact G_ireturn rfl rfl dX9_newcomer_42 rfl

set_option maxRecDepth 100000 in
set_option maxHeartbeats 4000000 in
theorem w_Nc_hasSuchTie_L50 (X : Cx) (ad : Nat → Nat) (v3_2 : Int32) (v4_2 : Int32) (v5_2 : Int32) (v6_2 : Int32) (v7_2 : Int32) (M : Mem) (kx : Option Int32) (hkx : G X ad mi_Nc_hasSuchTie (φI M) 148 [(0, .ref (ad 10)), (1, .ref (ad 1)), (2, .ref (ad 26)), (3, .int v3_2), (4, .int v4_2), (5, .int v5_2), (6, .int v6_2), (7, .int v7_2)] [] M (kx)) : ∀ (n : Nat) (s : Int32), G X ad mi_Nc_hasSuchTie (φI M) 50 [(0, .ref (ad 10)), (1, .ref (ad 1)), (2, .ref (ad 26)), (3, .int v3_2), (4, .int v4_2), (5, .int v5_2), (6, .int v6_2), (7, .int v7_2), (8, .int s)] [] M (LOOP (fun aq sq => Nc_hasSuchTie_L50 v3_2 v4_2 v5_2 v6_2 v7_2 M kx aq sq) n s) := by
  refine LOOP_rule (fun (s : Int32) o => G X ad mi_Nc_hasSuchTie (φI M) 50 [(0, .ref (ad 10)), (1, .ref (ad 1)), (2, .ref (ad 26)), (3, .int v3_2), (4, .int v4_2), (5, .int v5_2), (6, .int v6_2), (7, .int v7_2), (8, .int s)] [] M o) (fun _ => G_none) (fun ag hag v8_1 => ?_)
  show G X ad mi_Nc_hasSuchTie (φI M) 50 [(0, .ref (ad 10)), (1, .ref (ad 1)), (2, .ref (ad 26)), (3, .int v3_2), (4, .int v4_2), (5, .int v5_2), (6, .int v6_2), (7, .int v7_2), (8, .int v8_1)] [] M (Nc_hasSuchTie_L50 v3_2 v4_2 v5_2 v6_2 v7_2 M kx ag v8_1)
  unfold Nc_hasSuchTie_L50
  refine G_iload dX2_hasSuchTie_50 8 rfl ?_
  refine G_aload_n dX2_hasSuchTie_52 1 rfl ?_
  refine G_getIN hclX7 (by decide) rfl 2 (by decide) rfl wn_149 dX2_hasSuchTie_53 ?_
  refine G_icmp_ge 148 dX2_hasSuchTie_56 (by decide) (fun _ => ?_) (fun _ => ?_)
  refine G_sub [0, 1, 2, 3, 4, 5, 6, 7] rfl ?_
  exact hkx
  refine G_aload_n dX2_hasSuchTie_59 2 rfl ?_
  refine G_iload dX2_hasSuchTie_60 7 rfl ?_
  refine G_callVN_I (m_Pa_of 26 isP_26 _ M) cal_Pa_of ⟨Nat.le_of_ble_eq_true rfl, Nat.le_of_ble_eq_true rfl⟩ wn_843 hclX3 (by decide) rfl [.int v7_2] rfl rfl rfl (Nat.le_of_ble_eq_true rfl) dX2_hasSuchTie_62 (fun r_4 => ?_)
  refine G_iload_n dX2_hasSuchTie_65 3 rfl ?_
  refine G_jp (fun kq => ∀ (s_2 : Int32), G X ad mi_Nc_hasSuchTie (φI M) 85 [(0, .ref (ad 10)), (1, .ref (ad 1)), (2, .ref (ad 26)), (3, .int v3_2), (4, .int v4_2), (5, .int v5_2), (6, .int v6_2), (7, .int v7_2), (8, .int v8_1)] [.int s_2] M (kq s_2)) (fun s_2 => ?_) (fun k_2 hk_2 => ?_)
  refine G_istore dX2_hasSuchTie_85 (by decide) (L' := [(9, .int s_2), (0, .ref (ad 10)), (1, .ref (ad 1)), (2, .ref (ad 26)), (3, .int v3_2), (4, .int v4_2), (5, .int v5_2), (6, .int v6_2), (7, .int v7_2), (8, .int v8_1)]) rfl ?_
  refine G_iload dX2_hasSuchTie_87 0 rfl ?_
  refine G_if_eq 142 dX2_hasSuchTie_89 (by decide) (fun _ => ?_) (fun _ => ?_)
  refine G_iinc (v8_1 + 1) dX2_hasSuchTie_142 9 rfl rfl (by decide) (L' := [(8, .int (v8_1 + 1)), (9, .int s_2), (0, .ref (ad 10)), (1, .ref (ad 1)), (2, .ref (ad 26)), (3, .int v3_2), (4, .int v4_2), (5, .int v5_2), (6, .int v6_2), (7, .int v7_2)]) rfl ?_
  refine G_goto 50 dX2_hasSuchTie_145 (by decide) ?_
  refine G_sub [2, 3, 4, 5, 6, 7, 8, 9, 0] rfl ?_
  exact hag (v8_1 + 1)
  refine G_iload dX2_hasSuchTie_92 7 rfl ?_
  refine G_if_eq 120 dX2_hasSuchTie_94 (by decide) (fun _ => ?_) (fun _ => ?_)
  refine G_aload_n dX2_hasSuchTie_120 2 rfl ?_
  refine G_aload_n dX2_hasSuchTie_121 1 rfl ?_
  refine G_getR hclX2 (by decide) rfl 0 (by decide) rfl wd_206 dX2_hasSuchTie_122 ?_
  refine G_iload dX2_hasSuchTie_125 5 rfl ?_
  refine G_callSN_I (m_SP_at 11 isA_11 _ M) cal_SP_at ⟨Nat.le_of_ble_eq_true rfl, Nat.le_of_ble_eq_true rfl⟩ wn_842 rfl rfl (Nat.le_of_ble_eq_true rfl) dX2_hasSuchTie_127 (fun r_5 => ?_)
  refine G_iload dX2_hasSuchTie_130 9 rfl ?_
  refine G_iload dX2_hasSuchTie_132 8 rfl ?_
  refine G_callVN_I (m_To_tied _ _ _ M) cal_To_tied ⟨Nat.le_of_ble_eq_true rfl, Nat.le_of_ble_eq_true rfl⟩ wn_844 hclX7 (by decide) rfl [.int r_5, .int v8_1, .int v7_2] rfl rfl rfl (Nat.le_of_ble_eq_true rfl) dX2_hasSuchTie_134 (fun r_6 => ?_)
  refine G_if_eq 142 dX2_hasSuchTie_137 (by decide) (fun _ => ?_) (fun _ => ?_)
  refine G_iinc (v8_1 + 1) dX2_hasSuchTie_142 9 rfl rfl (by decide) (L' := [(8, .int (v8_1 + 1)), (9, .int s_2), (0, .ref (ad 10)), (1, .ref (ad 1)), (2, .ref (ad 26)), (3, .int v3_2), (4, .int v4_2), (5, .int v5_2), (6, .int v6_2), (7, .int v7_2)]) rfl ?_
  refine G_goto 50 dX2_hasSuchTie_145 (by decide) ?_
  refine G_sub [2, 3, 4, 5, 6, 7, 8, 9, 0] rfl ?_
  exact hag (v8_1 + 1)
  refine G_iconst (v := 1) dX2_hasSuchTie_140 rfl ?_
  exact G_zreturn rfl rfl dX2_hasSuchTie_141 rfl
  refine G_aload_n dX2_hasSuchTie_97 2 rfl ?_
  refine G_aload_n dX2_hasSuchTie_98 1 rfl ?_
  refine G_getR hclX2 (by decide) rfl 0 (by decide) rfl wd_206 dX2_hasSuchTie_99 ?_
  refine G_iload dX2_hasSuchTie_102 5 rfl ?_
  refine G_callSN_I (m_SP_at 11 isA_11 _ M) cal_SP_at ⟨Nat.le_of_ble_eq_true rfl, Nat.le_of_ble_eq_true rfl⟩ wn_842 rfl rfl (Nat.le_of_ble_eq_true rfl) dX2_hasSuchTie_104 (fun r_7 => ?_)
  refine G_iload dX2_hasSuchTie_107 8 rfl ?_
  refine G_iload dX2_hasSuchTie_109 9 rfl ?_
  refine G_callVN_I (m_To_tied _ _ _ M) cal_To_tied ⟨Nat.le_of_ble_eq_true rfl, Nat.le_of_ble_eq_true rfl⟩ wn_844 hclX7 (by decide) rfl [.int r_7, .int v7_2, .int v8_1] rfl rfl rfl (Nat.le_of_ble_eq_true rfl) dX2_hasSuchTie_111 (fun r_8 => ?_)
  refine G_if_eq 142 dX2_hasSuchTie_114 (by decide) (fun _ => ?_) (fun _ => ?_)
  refine G_iinc (v8_1 + 1) dX2_hasSuchTie_142 9 rfl rfl (by decide) (L' := [(8, .int (v8_1 + 1)), (9, .int s_2), (0, .ref (ad 10)), (1, .ref (ad 1)), (2, .ref (ad 26)), (3, .int v3_2), (4, .int v4_2), (5, .int v5_2), (6, .int v6_2), (7, .int v7_2)]) rfl ?_
  refine G_goto 50 dX2_hasSuchTie_145 (by decide) ?_
  refine G_sub [2, 3, 4, 5, 6, 7, 8, 9, 0] rfl ?_
  exact hag (v8_1 + 1)
  refine G_goto 140 dX2_hasSuchTie_117 (by decide) ?_
  refine G_iconst (v := 1) dX2_hasSuchTie_140 rfl ?_
  exact G_zreturn rfl rfl dX2_hasSuchTie_141 rfl
  refine G_icmp_ne 84 dX2_hasSuchTie_66 (by decide) (fun _ => ?_) (fun _ => ?_)
  refine G_aload_n dX2_hasSuchTie_69 2 rfl ?_
  refine G_iload dX2_hasSuchTie_70 8 rfl ?_
  refine G_callVN_I (m_Pa_of 26 isP_26 _ M) cal_Pa_of ⟨Nat.le_of_ble_eq_true rfl, Nat.le_of_ble_eq_true rfl⟩ wn_843 hclX3 (by decide) rfl [.int v8_1] rfl rfl rfl (Nat.le_of_ble_eq_true rfl) dX2_hasSuchTie_72 (fun r_9 => ?_)
  refine G_iload dX2_hasSuchTie_75 5 rfl ?_
  refine G_icmp_ne 84 dX2_hasSuchTie_77 (by decide) (fun _ => ?_) (fun _ => ?_)
  refine G_iconst (v := 1) dX2_hasSuchTie_80 rfl ?_
  refine G_goto 85 dX2_hasSuchTie_81 (by decide) ?_
  refine G_sub [0, 1, 2, 3, 4, 5, 6, 7, 8] rfl ?_
  exact hk_2 1
  refine G_iconst (v := 0) dX2_hasSuchTie_84 rfl ?_
  refine G_sub [0, 1, 2, 3, 4, 5, 6, 7, 8] rfl ?_
  exact hk_2 0
  refine G_iconst (v := 0) dX2_hasSuchTie_84 rfl ?_
  refine G_sub [0, 1, 2, 3, 4, 5, 6, 7, 8] rfl ?_
  exact hk_2 0

set_option maxRecDepth 100000 in
set_option maxHeartbeats 4000000 in
theorem w_Nc_hasSuchTie_L38 (X : Cx) (ad : Nat → Nat) (v3_1 : Int32) (v4_1 : Int32) (v5_1 : Int32) (v6_1 : Int32) (M : Mem) (kx : Option Int32) (hkx : G X ad mi_Nc_hasSuchTie (φI M) 154 [] [] M (kx)) : ∀ (n : Nat) (s : Int32), G X ad mi_Nc_hasSuchTie (φI M) 38 [(0, .ref (ad 10)), (1, .ref (ad 1)), (2, .ref (ad 26)), (3, .int v3_1), (4, .int v4_1), (5, .int v5_1), (6, .int v6_1), (7, .int s)] [] M (LOOP (fun aq sq => Nc_hasSuchTie_L38 v3_1 v4_1 v5_1 v6_1 M kx aq sq) n s) := by
  refine LOOP_rule (fun (s : Int32) o => G X ad mi_Nc_hasSuchTie (φI M) 38 [(0, .ref (ad 10)), (1, .ref (ad 1)), (2, .ref (ad 26)), (3, .int v3_1), (4, .int v4_1), (5, .int v5_1), (6, .int v6_1), (7, .int s)] [] M o) (fun _ => G_none) (fun ag hag v7_1 => ?_)
  show G X ad mi_Nc_hasSuchTie (φI M) 38 [(0, .ref (ad 10)), (1, .ref (ad 1)), (2, .ref (ad 26)), (3, .int v3_1), (4, .int v4_1), (5, .int v5_1), (6, .int v6_1), (7, .int v7_1)] [] M (Nc_hasSuchTie_L38 v3_1 v4_1 v5_1 v6_1 M kx ag v7_1)
  unfold Nc_hasSuchTie_L38
  refine G_iload dX2_hasSuchTie_38 7 rfl ?_
  refine G_aload_n dX2_hasSuchTie_40 1 rfl ?_
  refine G_getIN hclX7 (by decide) rfl 2 (by decide) rfl wn_149 dX2_hasSuchTie_41 ?_
  refine G_icmp_ge 154 dX2_hasSuchTie_44 (by decide) (fun _ => ?_) (fun _ => ?_)
  refine G_sub [] rfl ?_
  exact hkx
  refine G_iconst (v := 0) dX2_hasSuchTie_47 rfl ?_
  refine G_istore dX2_hasSuchTie_48 (by decide) (L' := [(8, .int 0), (0, .ref (ad 10)), (1, .ref (ad 1)), (2, .ref (ad 26)), (3, .int v3_1), (4, .int v4_1), (5, .int v5_1), (6, .int v6_1), (7, .int v7_1)]) rfl ?_
  refine G_sub [1, 2, 3, 4, 5, 6, 7, 8, 0] rfl ?_
  refine w_Nc_hasSuchTie_L50 X ad v3_1 v4_1 v5_1 v6_1 v7_1 M _ ?_ _ _
  refine G_iinc (v7_1 + 1) dX2_hasSuchTie_148 7 rfl rfl (by decide) (L' := [(7, .int (v7_1 + 1)), (0, .ref (ad 10)), (1, .ref (ad 1)), (2, .ref (ad 26)), (3, .int v3_1), (4, .int v4_1), (5, .int v5_1), (6, .int v6_1)]) rfl ?_
  refine G_goto 38 dX2_hasSuchTie_151 (by decide) ?_
  refine G_sub [1, 2, 3, 4, 5, 6, 7, 0] rfl ?_
  exact hag (v7_1 + 1)

set_option maxRecDepth 100000 in
set_option maxHeartbeats 4000000 in
theorem m_Nc_hasSuchTie (v3 : Int32) (v4 : Int32) (M : Mem) : MC mi_Nc_hasSuchTie (φI M) (fun ad => [.ref (ad 10), .ref (ad 1), .ref (ad 26), .int v3, .int v4]) M (Nc_hasSuchTie v3 v4 M) := by
  refine MC_of rfl (by decide +kernel) (fun ad => [(0, .ref (ad 10)), (1, .ref (ad 1)), (2, .ref (ad 26)), (3, .int v3), (4, .int v4)]) (fun _ => rfl) (fun _ => Nat.le_of_ble_eq_true rfl) (fun X ad => ?_)
  show G X ad mi_Nc_hasSuchTie (φI M) 0 [(0, .ref (ad 10)), (1, .ref (ad 1)), (2, .ref (ad 26)), (3, .int v3), (4, .int v4)] [] M _
  unfold Nc_hasSuchTie
  refine G_aload_n dX2_hasSuchTie_0 2 rfl ?_
  refine G_aload_n dX2_hasSuchTie_1 0 rfl ?_
  refine G_getR hclX2 (by decide) rfl 1 (by decide) rfl wd_207 dX2_hasSuchTie_2 ?_
  refine G_iload dX2_hasSuchTie_5 4 rfl ?_
  refine G_callSN_I (m_SP_at 12 isA_12 _ M) cal_SP_at ⟨Nat.le_of_ble_eq_true rfl, Nat.le_of_ble_eq_true rfl⟩ wn_842 rfl rfl (Nat.le_of_ble_eq_true rfl) dX2_hasSuchTie_7 (fun r_1 => ?_)
  refine G_callVN_I (m_Pa_of 26 isP_26 _ M) cal_Pa_of ⟨Nat.le_of_ble_eq_true rfl, Nat.le_of_ble_eq_true rfl⟩ wn_843 hclX3 (by decide) rfl [.int r_1] rfl rfl rfl (Nat.le_of_ble_eq_true rfl) dX2_hasSuchTie_10 (fun r_2 => ?_)
  refine G_istore dX2_hasSuchTie_13 (by decide) (L' := [(5, .int r_2), (0, .ref (ad 10)), (1, .ref (ad 1)), (2, .ref (ad 26)), (3, .int v3), (4, .int v4)]) rfl ?_
  refine G_aload_n dX2_hasSuchTie_15 1 rfl ?_
  refine G_getR hclX2 (by decide) rfl 2 (by decide) rfl wd_208 dX2_hasSuchTie_16 ?_
  refine G_iload dX2_hasSuchTie_19 5 rfl ?_
  refine G_callSN_I (m_SP_at 13 isA_13 _ M) cal_SP_at ⟨Nat.le_of_ble_eq_true rfl, Nat.le_of_ble_eq_true rfl⟩ wn_842 rfl rfl (Nat.le_of_ble_eq_true rfl) dX2_hasSuchTie_21 (fun r_3 => ?_)
  refine G_iconst (v := 1) dX2_hasSuchTie_24 rfl ?_
  refine G_jp (fun kq => ∀ (s_1 : Int32), G X ad mi_Nc_hasSuchTie (φI M) 33 [(0, .ref (ad 10)), (1, .ref (ad 1)), (2, .ref (ad 26)), (3, .int v3), (4, .int v4), (5, .int r_2)] [.int s_1] M (kq s_1)) (fun s_1 => ?_) (fun k_1 hk_1 => ?_)
  refine G_istore dX2_hasSuchTie_33 (by decide) (L' := [(6, .int s_1), (0, .ref (ad 10)), (1, .ref (ad 1)), (2, .ref (ad 26)), (3, .int v3), (4, .int v4), (5, .int r_2)]) rfl ?_
  refine G_iconst (v := 0) dX2_hasSuchTie_35 rfl ?_
  refine G_istore dX2_hasSuchTie_36 (by decide) (L' := [(7, .int 0), (6, .int s_1), (0, .ref (ad 10)), (1, .ref (ad 1)), (2, .ref (ad 26)), (3, .int v3), (4, .int v4), (5, .int r_2)]) rfl ?_
  refine G_sub [2, 3, 4, 5, 6, 7, 1, 0] rfl ?_
  refine w_Nc_hasSuchTie_L38 X ad v3 v4 r_2 s_1 M _ ?_ _ _
  refine G_iconst (v := 0) dX2_hasSuchTie_154 rfl ?_
  exact G_zreturn rfl rfl dX2_hasSuchTie_155 rfl
  refine G_icmp_ne 32 dX2_hasSuchTie_25 (by decide) (fun _ => ?_) (fun _ => ?_)
  refine G_iconst (v := 1) dX2_hasSuchTie_28 rfl ?_
  refine G_goto 33 dX2_hasSuchTie_29 (by decide) ?_
  refine G_sub [1, 2, 3, 4, 5, 0] rfl ?_
  exact hk_1 1
  refine G_iconst (v := 0) dX2_hasSuchTie_32 rfl ?_
  refine G_sub [1, 2, 3, 4, 5, 0] rfl ?_
  exact hk_1 0

set_option maxRecDepth 100000 in
set_option maxHeartbeats 4000000 in
theorem w_Nc_suitingParts_L20 (X : Cx) (ad : Nat → Nat) (v3_2 : Int32) (v4_2 : Int32) (M : Mem) (kx : Int32 → Option Int32) (hkx : ∀ (e5 : Int32), G X ad mi_Nc_suitingParts (φI M) 52 [(0, .ref (ad 10)), (1, .ref (ad 1)), (2, .ref (ad 26)), (3, .int v3_2), (4, .int v4_2), (5, .int e5)] [] M (kx e5)) : ∀ (n : Nat) (s : Int32 × Int32), G X ad mi_Nc_suitingParts (φI M) 20 [(0, .ref (ad 10)), (1, .ref (ad 1)), (2, .ref (ad 26)), (3, .int v3_2), (4, .int v4_2), (5, .int s.1), (6, .int s.2)] [] M (LOOP (fun aq sq => Nc_suitingParts_L20 v4_2 M kx aq sq.1 sq.2) n s) := by
  refine LOOP_rule (fun (s : Int32 × Int32) o => G X ad mi_Nc_suitingParts (φI M) 20 [(0, .ref (ad 10)), (1, .ref (ad 1)), (2, .ref (ad 26)), (3, .int v3_2), (4, .int v4_2), (5, .int s.1), (6, .int s.2)] [] M o) (fun _ => G_none) (fun ag hag s => ?_)
  obtain ⟨v5_1, v6_1⟩ := s
  show G X ad mi_Nc_suitingParts (φI M) 20 [(0, .ref (ad 10)), (1, .ref (ad 1)), (2, .ref (ad 26)), (3, .int v3_2), (4, .int v4_2), (5, .int v5_1), (6, .int v6_1)] [] M (Nc_suitingParts_L20 v4_2 M kx ag v5_1 v6_1)
  unfold Nc_suitingParts_L20
  refine G_iload dX2_suitingParts_20 6 rfl ?_
  refine G_aload_n dX2_suitingParts_22 0 rfl ?_
  refine G_getI hclX2 (by decide) rfl 3 (by decide) rfl wd_209 dX2_suitingParts_23 ?_
  refine G_icmp_ge 52 dX2_suitingParts_26 (by decide) (fun _ => ?_) (fun _ => ?_)
  refine G_sub [0, 1, 2, 3, 4, 5] rfl ?_
  exact hkx v5_1
  refine G_iload dX2_suitingParts_29 5 rfl ?_
  refine G_if_eq 52 dX2_suitingParts_31 (by decide) (fun _ => ?_) (fun _ => ?_)
  refine G_sub [0, 1, 2, 3, 4, 5] rfl ?_
  exact hkx v5_1
  refine G_aload_n dX2_suitingParts_34 0 rfl ?_
  refine G_aload_n dX2_suitingParts_35 1 rfl ?_
  refine G_aload_n dX2_suitingParts_36 2 rfl ?_
  refine G_iload dX2_suitingParts_37 4 rfl ?_
  refine G_iload dX2_suitingParts_39 6 rfl ?_
  refine G_callV_I (m_Nc_hasSuchTie _ _ M) cal_Nc_hasSuchTie ⟨Nat.le_of_ble_eq_true rfl, Nat.le_of_ble_eq_true rfl⟩ wd_838 hclX2 (by decide) rfl [.ref (ad 1), .ref (ad 26), .int v4_2, .int v6_1] rfl rfl rfl (Nat.le_of_ble_eq_true rfl) dX2_suitingParts_41 (fun r_1 => ?_)
  refine G_istore dX2_suitingParts_44 (by decide) (L' := [(5, .int r_1), (0, .ref (ad 10)), (1, .ref (ad 1)), (2, .ref (ad 26)), (3, .int v3_2), (4, .int v4_2), (6, .int v6_1)]) rfl ?_
  refine G_iinc (v6_1 + 1) dX2_suitingParts_46 6 rfl rfl (by decide) (L' := [(6, .int (v6_1 + 1)), (5, .int r_1), (0, .ref (ad 10)), (1, .ref (ad 1)), (2, .ref (ad 26)), (3, .int v3_2), (4, .int v4_2)]) rfl ?_
  refine G_goto 20 dX2_suitingParts_49 (by decide) ?_
  refine G_sub [2, 3, 4, 5, 6, 1, 0] rfl ?_
  exact hag (r_1, v6_1 + 1)

set_option maxRecDepth 100000 in
set_option maxHeartbeats 4000000 in
theorem w_Nc_suitingParts_L5 (X : Cx) (ad : Nat → Nat) (M : Mem) (kx : Int32 → Option Int32) (hkx : ∀ (e3 : Int32), G X ad mi_Nc_suitingParts (φI M) 70 [(3, .int e3)] [] M (kx e3)) : ∀ (n : Nat) (s : Int32 × Int32), G X ad mi_Nc_suitingParts (φI M) 5 [(0, .ref (ad 10)), (1, .ref (ad 1)), (2, .ref (ad 26)), (3, .int s.1), (4, .int s.2)] [] M (LOOP (fun aq sq => Nc_suitingParts_L5 M kx aq sq.1 sq.2) n s) := by
  refine LOOP_rule (fun (s : Int32 × Int32) o => G X ad mi_Nc_suitingParts (φI M) 5 [(0, .ref (ad 10)), (1, .ref (ad 1)), (2, .ref (ad 26)), (3, .int s.1), (4, .int s.2)] [] M o) (fun _ => G_none) (fun ag hag s => ?_)
  obtain ⟨v3_1, v4_1⟩ := s
  show G X ad mi_Nc_suitingParts (φI M) 5 [(0, .ref (ad 10)), (1, .ref (ad 1)), (2, .ref (ad 26)), (3, .int v3_1), (4, .int v4_1)] [] M (Nc_suitingParts_L5 M kx ag v3_1 v4_1)
  unfold Nc_suitingParts_L5
  refine G_iload dX2_suitingParts_5 4 rfl ?_
  refine G_aload_n dX2_suitingParts_7 2 rfl ?_
  refine G_getIN hclX3 (by decide) rfl 2 (by decide) rfl wn_290 dX2_suitingParts_8 ?_
  refine G_icmp_ge 70 dX2_suitingParts_11 (by decide) (fun _ => ?_) (fun _ => ?_)
  refine G_sub [3] rfl ?_
  exact hkx v3_1
  refine G_iconst (v := 1) dX2_suitingParts_14 rfl ?_
  refine G_istore dX2_suitingParts_15 (by decide) (L' := [(5, .int 1), (0, .ref (ad 10)), (1, .ref (ad 1)), (2, .ref (ad 26)), (3, .int v3_1), (4, .int v4_1)]) rfl ?_
  refine G_iconst (v := 0) dX2_suitingParts_17 rfl ?_
  refine G_istore dX2_suitingParts_18 (by decide) (L' := [(6, .int 0), (5, .int 1), (0, .ref (ad 10)), (1, .ref (ad 1)), (2, .ref (ad 26)), (3, .int v3_1), (4, .int v4_1)]) rfl ?_
  refine G_sub [2, 3, 4, 5, 6, 1, 0] rfl ?_
  refine w_Nc_suitingParts_L20 X ad v3_1 v4_1 M _ (fun v5_2 => ?_) _ _
  refine G_iload dX2_suitingParts_52 5 rfl ?_
  refine G_if_eq 64 dX2_suitingParts_54 (by decide) (fun _ => ?_) (fun _ => ?_)
  refine G_iinc (v4_1 + 1) dX2_suitingParts_64 4 rfl rfl (by decide) (L' := [(4, .int (v4_1 + 1)), (0, .ref (ad 10)), (1, .ref (ad 1)), (2, .ref (ad 26)), (3, .int v3_1), (5, .int v5_2)]) rfl ?_
  refine G_goto 5 dX2_suitingParts_67 (by decide) ?_
  refine G_sub [1, 2, 3, 4, 0] rfl ?_
  exact hag (v3_1, v4_1 + 1)
  refine G_iload_n dX2_suitingParts_57 3 rfl ?_
  refine G_iconst (v := 1) dX2_suitingParts_58 rfl ?_
  refine G_iload dX2_suitingParts_59 4 rfl ?_
  refine G_ishl dX2_suitingParts_61 ?_
  refine G_ior dX2_suitingParts_62 ?_
  refine G_nmI (fun v3_3 => ?_)
  refine G_istore_n 3 rfl dX2_suitingParts_63 (by decide) (L' := [(3, .int v3_3), (0, .ref (ad 10)), (1, .ref (ad 1)), (2, .ref (ad 26)), (4, .int v4_1), (5, .int v5_2)]) rfl ?_
  refine G_iinc (v4_1 + 1) dX2_suitingParts_64 4 rfl rfl (by decide) (L' := [(4, .int (v4_1 + 1)), (3, .int v3_3), (0, .ref (ad 10)), (1, .ref (ad 1)), (2, .ref (ad 26)), (5, .int v5_2)]) rfl ?_
  refine G_goto 5 dX2_suitingParts_67 (by decide) ?_
  refine G_sub [2, 3, 4, 1, 0] rfl ?_
  exact hag (v3_3, v4_1 + 1)

set_option maxRecDepth 100000 in
set_option maxHeartbeats 4000000 in
theorem m_Nc_suitingParts (M : Mem) : MC mi_Nc_suitingParts (φI M) (fun ad => [.ref (ad 10), .ref (ad 1), .ref (ad 26)]) M (Nc_suitingParts M) := by
  refine MC_of rfl (by decide +kernel) (fun ad => [(0, .ref (ad 10)), (1, .ref (ad 1)), (2, .ref (ad 26))]) (fun _ => rfl) (fun _ => Nat.le_of_ble_eq_true rfl) (fun X ad => ?_)
  show G X ad mi_Nc_suitingParts (φI M) 0 [(0, .ref (ad 10)), (1, .ref (ad 1)), (2, .ref (ad 26))] [] M _
  unfold Nc_suitingParts
  refine G_iconst (v := 0) dX2_suitingParts_0 rfl ?_
  refine G_istore_n 3 rfl dX2_suitingParts_1 (by decide) (L' := [(3, .int 0), (0, .ref (ad 10)), (1, .ref (ad 1)), (2, .ref (ad 26))]) rfl ?_
  refine G_iconst (v := 0) dX2_suitingParts_2 rfl ?_
  refine G_istore dX2_suitingParts_3 (by decide) (L' := [(4, .int 0), (3, .int 0), (0, .ref (ad 10)), (1, .ref (ad 1)), (2, .ref (ad 26))]) rfl ?_
  refine G_sub [2, 3, 4, 1, 0] rfl ?_
  refine w_Nc_suitingParts_L5 X ad M _ (fun v3_4 => ?_) _ _
  refine G_iload_n dX2_suitingParts_70 0 rfl ?_
  exact G_ireturn rfl rfl dX2_suitingParts_71 rfl

set_option maxRecDepth 100000 in
set_option maxHeartbeats 4000000 in
theorem m_SP_fits (v1 : Int32) (M : Mem) : MC mi_SP_fits (φIM) (fun ad => [.ref (ad 0), .int v1]) M (SP_fits v1 M) := by
  refine MC_of rfl (by decide +kernel) (fun ad => [(0, .ref (ad 0)), (1, .int v1)]) (fun _ => rfl) (fun _ => Nat.le_of_ble_eq_true rfl) (fun X ad => ?_)
  show G X ad mi_SP_fits (φIM) 0 [(0, .ref (ad 0)), (1, .int v1)] [] M _
  unfold SP_fits
  refine G_aload_n dX9_fits_0 0 rfl ?_
  refine G_getR hclX9 (by decide) rfl 8 (by decide) rfl wd_315 dX9_fits_1 ?_
  refine G_iload_n dX9_fits_4 1 rfl ?_
  refine G_aload_n dX9_fits_5 0 rfl ?_
  refine G_getR hclX9 (by decide) rfl 0 (by decide) rfl wd_307 dX9_fits_6 ?_
  refine G_getIN hclX7 (by decide) rfl 2 (by decide) rfl wn_147 dX9_fits_9 ?_
  refine G_callVN_IM (m_Pa_readNumber 26 isP_26 _ _ M) cal_Pa_readNumber ⟨Nat.le_of_ble_eq_true rfl, Nat.le_of_ble_eq_true rfl⟩ wn_501 hclX3 (by decide) rfl [.int v1, .int (M 1 2)] rfl rfl rfl (Nat.le_of_ble_eq_true rfl) dX9_fits_12 (fun r_1 M1 => ?_)
  refine G_if_ne 24 dX9_fits_15 (by decide) (fun _ => ?_) (fun _ => ?_)
  refine G_aload_n dX9_fits_18 0 rfl ?_
  refine G_iconst (v := -1) dX9_fits_19 rfl ?_
  refine G_callV_IM (m_SP_refuse _ M1) cal_SP_refuse ⟨Nat.le_of_ble_eq_true rfl, Nat.le_of_ble_eq_true rfl⟩ wd_351 hclX9 (by decide) rfl [.int (-1)] rfl rfl rfl (Nat.le_of_ble_eq_true rfl) dX9_fits_20 (fun r_2 M2 => ?_)
  exact G_ireturn rfl rfl dX9_fits_23 rfl
  refine G_aload_n dX9_fits_24 0 rfl ?_
  refine G_aload_n dX9_fits_25 0 rfl ?_
  refine G_getI hclX9 (by decide) rfl 12 (by decide) rfl wd_319 dX9_fits_26 ?_
  refine G_callV_V (m_SP_lookAt _ M1) cal_SP_lookAt ⟨Nat.le_of_ble_eq_true rfl, Nat.le_of_ble_eq_true rfl⟩ wd_468 hclX9 (by decide) rfl [.int (M1 0 12)] rfl rfl rfl (Nat.le_of_ble_eq_true rfl) dX9_fits_29 (fun M3 => ?_)
  refine G_aload_n dX9_fits_32 0 rfl ?_
  refine G_getR hclX9 (by decide) rfl 3 (by decide) rfl wd_310 dX9_fits_33 ?_
  refine G_aload_n dX9_fits_36 0 rfl ?_
  refine G_getR hclX9 (by decide) rfl 0 (by decide) rfl wd_307 dX9_fits_37 ?_
  refine G_aload_n dX9_fits_40 0 rfl ?_
  refine G_getR hclX9 (by decide) rfl 8 (by decide) rfl wd_315 dX9_fits_41 ?_
  refine G_callVN_I (m_Nc_suitingParts M3) cal_Nc_suitingParts ⟨Nat.le_of_ble_eq_true rfl, Nat.le_of_ble_eq_true rfl⟩ wn_834 hclX2 (by decide) rfl [.ref (ad 1), .ref (ad 26)] rfl rfl rfl (Nat.le_of_ble_eq_true rfl) dX9_fits_44 (fun r_3 => ?_)
  exact G_ireturn rfl rfl dX9_fits_47 rfl

set_option maxRecDepth 100000 in
set_option maxHeartbeats 4000000 in
theorem m_SP_gone (M : Mem) : MC mi_SP_gone (φIM) (fun ad => [.ref (ad 0)]) M (SP_gone M) := by
  refine MC_of rfl (by decide +kernel) (fun ad => [(0, .ref (ad 0))]) (fun _ => rfl) (fun _ => Nat.le_of_ble_eq_true rfl) (fun X ad => ?_)
  show G X ad mi_SP_gone (φIM) 0 [(0, .ref (ad 0))] [] M _
  unfold SP_gone
  refine G_aload_n dX9_gone_0 0 rfl ?_
  refine G_getR hclX9 (by decide) rfl 3 (by decide) rfl wd_310 dX9_gone_1 ?_
  refine G_getIN hclX2 (by decide) rfl 3 (by decide) rfl wn_210 dX9_gone_4 ?_
  refine G_nmI (fun v1_1 => ?_)
  refine G_istore_n 1 rfl dX9_gone_7 (by decide) (L' := [(1, .int v1_1), (0, .ref (ad 0))]) rfl ?_
  refine G_aload_n dX9_gone_8 1 rfl ?_
  refine G_getR hclX9 (by decide) rfl 3 (by decide) rfl wd_310 dX9_gone_9 ?_
  refine G_iconst (v := 0) dX9_gone_12 rfl ?_
  refine G_putN hclX2 (by decide) rfl 3 (by decide) rfl rfl (by decide +kernel) wn_210 dX9_gone_13 (fun M1 => ?_)
  refine G_iload_n dX9_gone_16 0 rfl ?_
  exact G_ireturn rfl rfl dX9_gone_17 rfl

set_option maxRecDepth 100000 in
set_option maxHeartbeats 4000000 in
theorem m_SP_partOfYear (v1 : Int32) (v2 : Int32) (k3 : Nat) (hk3 : isP k3) (M : Mem) : MC mi_SP_partOfYear (φV) (fun ad => [.ref (ad 0), .int v1, .int v2, .ref (ad k3)]) M (SP_partOfYear v1 v2 k3 M) := by
  refine MC_of rfl (by decide +kernel) (fun ad => [(0, .ref (ad 0)), (1, .int v1), (2, .int v2), (3, .ref (ad k3))]) (fun _ => rfl) (fun _ => Nat.le_of_ble_eq_true rfl) (fun X ad => ?_)
  show G X ad mi_SP_partOfYear (φV) 0 [(0, .ref (ad 0)), (1, .int v1), (2, .int v2), (3, .ref (ad k3))] [] M _
  unfold SP_partOfYear
  refine G_aload_n dX9_partOfYear_0 0 rfl ?_
  refine G_iload_n dX9_partOfYear_1 1 rfl ?_
  refine G_callV_V (m_SP_lookAt _ M) cal_SP_lookAt ⟨Nat.le_of_ble_eq_true rfl, Nat.le_of_ble_eq_true rfl⟩ wd_468 hclX9 (by decide) rfl [.int v1] rfl rfl rfl (Nat.le_of_ble_eq_true rfl) dX9_partOfYear_2 (fun M1 => ?_)
  refine G_aload_n dX9_partOfYear_5 3 rfl ?_
  refine G_aload_n dX9_partOfYear_6 0 rfl ?_
  refine G_getR hclX9 (by decide) rfl 0 (by decide) rfl wd_307 dX9_partOfYear_7 ?_
  refine G_getIN hclX7 (by decide) rfl 2 (by decide) rfl wn_147 dX9_partOfYear_10 ?_
  refine G_callVN_V (m_Pa_allInOne k3 hk3 _ M1) cal_Pa_allInOne ⟨Nat.le_of_ble_eq_true rfl, Nat.le_of_ble_eq_true rfl⟩ wn_702 hclX3 (Nat.lt_of_succ_lt hk3.1) hk3.2.1 [.int (M1 1 2)] rfl rfl rfl (Nat.le_of_ble_eq_true rfl) dX9_partOfYear_13 (fun M2 => ?_)
  refine G_aload_n dX9_partOfYear_16 0 rfl ?_
  refine G_getR hclX9 (by decide) rfl 4 (by decide) rfl wd_311 dX9_partOfYear_17 ?_
  refine G_aload_n dX9_partOfYear_20 0 rfl ?_
  refine G_getR hclX9 (by decide) rfl 0 (by decide) rfl wd_307 dX9_partOfYear_21 ?_
  refine G_aload_n dX9_partOfYear_24 3 rfl ?_
  refine G_aload_n dX9_partOfYear_25 0 rfl ?_
  refine G_getR hclX9 (by decide) rfl 10 (by decide) rfl wd_317 dX9_partOfYear_26 ?_
  refine G_iload_n dX9_partOfYear_29 2 rfl ?_
  refine G_callVN_V (m_Sa_refine k3 hk3 30 isP_30 _ M2) cal_Sa_refine ⟨Nat.le_of_ble_eq_true rfl, Nat.le_of_ble_eq_true rfl⟩ wn_566 hclX4 (by decide) rfl [.ref (ad 1), .ref (ad k3), .ref (ad 30), .int v2] rfl rfl rfl (Nat.le_of_ble_eq_true rfl) dX9_partOfYear_30 (fun M3 => ?_)
  exact G_return rfl rfl dX9_partOfYear_33 rfl

set_option maxRecDepth 100000 in
set_option maxHeartbeats 4000000 in
theorem w_Ma_bestFor_L13 (X : Cx) (ad : Nat → Nat) (v1_1 : Int32) (v2_1 : Int32) (v3_1 : Int32) (M : Mem) (kx : Int32 → Option Int32) (hkx : ∀ (e4 : Int32), G X ad mi_Ma_bestFor (φI M) 71 [(4, .int e4)] [] M (kx e4)) : ∀ (n : Nat) (s : Int32 × Int32), G X ad mi_Ma_bestFor (φI M) 13 [(0, .ref (ad 23)), (1, .int v1_1), (2, .int v2_1), (3, .int v3_1), (4, .int s.1), (5, .int s.2)] [] M (LOOP (fun aq sq => Ma_bestFor_L13 v1_1 v2_1 v3_1 M kx aq sq.1 sq.2) n s) := by
  refine LOOP_rule (fun (s : Int32 × Int32) o => G X ad mi_Ma_bestFor (φI M) 13 [(0, .ref (ad 23)), (1, .int v1_1), (2, .int v2_1), (3, .int v3_1), (4, .int s.1), (5, .int s.2)] [] M o) (fun _ => G_none) (fun ag hag s => ?_)
  obtain ⟨v4_1, v5_1⟩ := s
  show G X ad mi_Ma_bestFor (φI M) 13 [(0, .ref (ad 23)), (1, .int v1_1), (2, .int v2_1), (3, .int v3_1), (4, .int v4_1), (5, .int v5_1)] [] M (Ma_bestFor_L13 v1_1 v2_1 v3_1 M kx ag v4_1 v5_1)
  unfold Ma_bestFor_L13
  refine G_iload dX1_bestFor_13 5 rfl ?_
  refine G_iload_n dX1_bestFor_15 3 rfl ?_
  refine G_icmp_ge 71 dX1_bestFor_16 (by decide) (fun _ => ?_) (fun _ => ?_)
  refine G_sub [4] rfl ?_
  exact hkx v4_1
  refine G_iload_n dX1_bestFor_19 2 rfl ?_
  refine G_iload dX1_bestFor_20 5 rfl ?_
  refine G_callSN_I (m_SP_holds _ _ M) cal_SP_holds ⟨Nat.le_of_ble_eq_true rfl, Nat.le_of_ble_eq_true rfl⟩ wn_869 rfl rfl (Nat.le_of_ble_eq_true rfl) dX1_bestFor_22 (fun r_2 => ?_)
  refine G_if_eq 65 dX1_bestFor_25 (by decide) (fun _ => ?_) (fun _ => ?_)
  refine G_iinc (v5_1 + 1) dX1_bestFor_65 5 rfl rfl (by decide) (L' := [(5, .int (v5_1 + 1)), (0, .ref (ad 23)), (1, .int v1_1), (2, .int v2_1), (3, .int v3_1), (4, .int v4_1)]) rfl ?_
  refine G_goto 13 dX1_bestFor_68 (by decide) ?_
  refine G_sub [1, 2, 3, 4, 5, 0] rfl ?_
  exact hag (v4_1, v5_1 + 1)
  refine G_iload dX1_bestFor_28 4 rfl ?_
  refine G_aload_n dX1_bestFor_30 0 rfl ?_
  refine G_getR hclX1 (by decide) rfl 1 (by decide) rfl wd_272 dX1_bestFor_31 ?_
  refine G_iload_n dX1_bestFor_34 2 rfl ?_
  refine G_iconst (v := 1) dX1_bestFor_35 rfl ?_
  refine G_iload dX1_bestFor_36 5 rfl ?_
  refine G_ishl dX1_bestFor_38 ?_
  refine G_iconst (v := -1) dX1_bestFor_39 rfl ?_
  refine G_ixor dX1_bestFor_40 ?_
  refine G_iand dX1_bestFor_41 ?_
  refine G_callSN_I (m_SP_at 25 isA_25 _ M) cal_SP_at ⟨Nat.le_of_ble_eq_true rfl, Nat.le_of_ble_eq_true rfl⟩ wn_868 rfl rfl (Nat.le_of_ble_eq_true rfl) dX1_bestFor_42 (fun r_3 => ?_)
  refine G_aload_n dX1_bestFor_45 0 rfl ?_
  refine G_getR hclX1 (by decide) rfl 0 (by decide) rfl wd_271 dX1_bestFor_46 ?_
  refine G_iload_n dX1_bestFor_49 1 rfl ?_
  refine G_bipush (v := 7) dX1_bestFor_50 rfl ?_
  refine G_imul dX1_bestFor_52 ?_
  refine G_iload dX1_bestFor_53 5 rfl ?_
  refine G_iadd dX1_bestFor_55 ?_
  refine G_callSN_I (m_SP_at 24 isA_24 _ M) cal_SP_at ⟨Nat.le_of_ble_eq_true rfl, Nat.le_of_ble_eq_true rfl⟩ wn_868 rfl rfl (Nat.le_of_ble_eq_true rfl) dX1_bestFor_56 (fun r_4 => ?_)
  refine G_iadd dX1_bestFor_59 ?_
  refine G_mmax wd_870 (Nat.le_of_ble_eq_true rfl) (Nat.le_of_ble_eq_true rfl) dX1_bestFor_60 ?_
  refine G_nmI (fun v4_2 => ?_)
  refine G_istore dX1_bestFor_63 (by decide) (L' := [(4, .int v4_2), (0, .ref (ad 23)), (1, .int v1_1), (2, .int v2_1), (3, .int v3_1), (5, .int v5_1)]) rfl ?_
  refine G_iinc (v5_1 + 1) dX1_bestFor_65 5 rfl rfl (by decide) (L' := [(5, .int (v5_1 + 1)), (4, .int v4_2), (0, .ref (ad 23)), (1, .int v1_1), (2, .int v2_1), (3, .int v3_1)]) rfl ?_
  refine G_goto 13 dX1_bestFor_68 (by decide) ?_
  refine G_sub [2, 3, 4, 5, 1, 0] rfl ?_
  exact hag (v4_2, v5_1 + 1)

set_option maxRecDepth 100000 in
set_option maxHeartbeats 4000000 in
theorem m_Ma_bestFor (v1 : Int32) (v2 : Int32) (v3 : Int32) (M : Mem) : MC mi_Ma_bestFor (φI M) (fun ad => [.ref (ad 23), .int v1, .int v2, .int v3]) M (Ma_bestFor v1 v2 v3 M) := by
  refine MC_of rfl (by decide +kernel) (fun ad => [(0, .ref (ad 23)), (1, .int v1), (2, .int v2), (3, .int v3)]) (fun _ => rfl) (fun _ => Nat.le_of_ble_eq_true rfl) (fun X ad => ?_)
  show G X ad mi_Ma_bestFor (φI M) 0 [(0, .ref (ad 23)), (1, .int v1), (2, .int v2), (3, .int v3)] [] M _
  unfold Ma_bestFor
  refine G_aload_n dX1_bestFor_0 0 rfl ?_
  refine G_getR hclX1 (by decide) rfl 1 (by decide) rfl wd_272 dX1_bestFor_1 ?_
  refine G_iload_n dX1_bestFor_4 2 rfl ?_
  refine G_callSN_I (m_SP_at 25 isA_25 _ M) cal_SP_at ⟨Nat.le_of_ble_eq_true rfl, Nat.le_of_ble_eq_true rfl⟩ wn_868 rfl rfl (Nat.le_of_ble_eq_true rfl) dX1_bestFor_5 (fun r_1 => ?_)
  refine G_istore dX1_bestFor_8 (by decide) (L' := [(4, .int r_1), (0, .ref (ad 23)), (1, .int v1), (2, .int v2), (3, .int v3)]) rfl ?_
  refine G_iconst (v := 0) dX1_bestFor_10 rfl ?_
  refine G_istore dX1_bestFor_11 (by decide) (L' := [(5, .int 0), (4, .int r_1), (0, .ref (ad 23)), (1, .int v1), (2, .int v2), (3, .int v3)]) rfl ?_
  refine G_sub [2, 3, 4, 5, 1, 0] rfl ?_
  refine w_Ma_bestFor_L13 X ad v1 v2 v3 M _ (fun v4_3 => ?_) _ _
  refine G_iload dX1_bestFor_71 0 rfl ?_
  exact G_ireturn rfl rfl dX1_bestFor_73 rfl

set_option maxRecDepth 100000 in
set_option maxHeartbeats 4000000 in
theorem w_Ma_keepers_L9 (X : Cx) (ad : Nat → Nat) (kx : Mem → Option (Int32 × Mem)) (hkx : ∀ (Me : Mem), G X ad mi_Ma_keepers (φIM) 45 [(0, .ref (ad 23)), (1, .ref (ad 26)), (2, .ref (ad 28))] [] Me (kx Me)) : ∀ (n : Nat) (s : Int32 × Mem), G X ad mi_Ma_keepers (φIM) 9 [(0, .ref (ad 23)), (1, .ref (ad 26)), (2, .ref (ad 28)), (3, .int s.1)] [] s.2 (LOOP (fun aq sq => Ma_keepers_L9 kx aq sq.1 sq.2) n s) := by
  refine LOOP_rule (fun (s : Int32 × Mem) o => G X ad mi_Ma_keepers (φIM) 9 [(0, .ref (ad 23)), (1, .ref (ad 26)), (2, .ref (ad 28)), (3, .int s.1)] [] s.2 o) (fun _ => G_none) (fun ag hag s => ?_)
  obtain ⟨v3_1, M2⟩ := s
  show G X ad mi_Ma_keepers (φIM) 9 [(0, .ref (ad 23)), (1, .ref (ad 26)), (2, .ref (ad 28)), (3, .int v3_1)] [] M2 (Ma_keepers_L9 kx ag v3_1 M2)
  unfold Ma_keepers_L9
  refine G_iload_n dX1_keepers_9 3 rfl ?_
  refine G_aload_n dX1_keepers_10 1 rfl ?_
  refine G_getIN hclX3 (by decide) rfl 1 (by decide) rfl wn_286 dX1_keepers_11 ?_
  refine G_icmp_ge 45 dX1_keepers_14 (by decide) (fun _ => ?_) (fun _ => ?_)
  refine G_sub [0, 1, 2] rfl ?_
  exact hkx M2
  refine G_aload_n dX1_keepers_17 0 rfl ?_
  refine G_getR hclX1 (by decide) rfl 0 (by decide) rfl wd_271 dX1_keepers_18 ?_
  refine G_aload_n dX1_keepers_21 1 rfl ?_
  refine G_iload_n dX1_keepers_22 3 rfl ?_
  refine G_callVN_I (m_Pa_of 26 isP_26 _ M2) cal_Pa_of ⟨Nat.le_of_ble_eq_true rfl, Nat.le_of_ble_eq_true rfl⟩ wn_862 hclX3 (by decide) rfl [.int v3_1] rfl rfl rfl (Nat.le_of_ble_eq_true rfl) dX1_keepers_23 (fun r_1 => ?_)
  refine G_bipush (v := 7) dX1_keepers_26 rfl ?_
  refine G_imul dX1_keepers_28 ?_
  refine G_aload_n dX1_keepers_29 2 rfl ?_
  refine G_iload_n dX1_keepers_30 3 rfl ?_
  refine G_callVN_I (m_Pa_of 28 isP_28 _ M2) cal_Pa_of ⟨Nat.le_of_ble_eq_true rfl, Nat.le_of_ble_eq_true rfl⟩ wn_862 hclX3 (by decide) rfl [.int v3_1] rfl rfl rfl (Nat.le_of_ble_eq_true rfl) dX1_keepers_31 (fun r_2 => ?_)
  refine G_iadd dX1_keepers_34 ?_
  refine G_iconst (v := 1) dX1_keepers_35 rfl ?_
  refine G_callSN_V (m_SP_addTo 24 isA_24 _ _ M2) cal_SP_addTo ⟨Nat.le_of_ble_eq_true rfl, Nat.le_of_ble_eq_true rfl⟩ wn_863 rfl rfl (Nat.le_of_ble_eq_true rfl) dX1_keepers_36 (fun M3 => ?_)
  refine G_iinc (v3_1 + 1) dX1_keepers_39 3 rfl rfl (by decide) (L' := [(3, .int (v3_1 + 1)), (0, .ref (ad 23)), (1, .ref (ad 26)), (2, .ref (ad 28))]) rfl ?_
  refine G_goto 9 dX1_keepers_42 (by decide) ?_
  refine G_sub [1, 2, 3, 0] rfl ?_
  exact hag (v3_1 + 1, M3)

set_option maxRecDepth 100000 in
set_option maxHeartbeats 4000000 in
theorem w_Ma_keepers_L76 (X : Cx) (ad : Nat → Nat) (v3_4 : Int32) (v4_2 : Int32) (kx : Mem → Option (Int32 × Mem)) (hkx : ∀ (Me : Mem), G X ad mi_Ma_keepers (φIM) 108 [(0, .ref (ad 23)), (1, .ref (ad 26)), (2, .ref (ad 28)), (3, .int v3_4), (4, .int v4_2)] [] Me (kx Me)) : ∀ (n : Nat) (s : Int32 × Mem), G X ad mi_Ma_keepers (φIM) 76 [(0, .ref (ad 23)), (1, .ref (ad 26)), (2, .ref (ad 28)), (3, .int v3_4), (4, .int v4_2), (5, .int s.1)] [] s.2 (LOOP (fun aq sq => Ma_keepers_L76 v4_2 kx aq sq.1 sq.2) n s) := by
  refine LOOP_rule (fun (s : Int32 × Mem) o => G X ad mi_Ma_keepers (φIM) 76 [(0, .ref (ad 23)), (1, .ref (ad 26)), (2, .ref (ad 28)), (3, .int v3_4), (4, .int v4_2), (5, .int s.1)] [] s.2 o) (fun _ => G_none) (fun ag hag s => ?_)
  obtain ⟨v5_1, M7⟩ := s
  show G X ad mi_Ma_keepers (φIM) 76 [(0, .ref (ad 23)), (1, .ref (ad 26)), (2, .ref (ad 28)), (3, .int v3_4), (4, .int v4_2), (5, .int v5_1)] [] M7 (Ma_keepers_L76 v4_2 kx ag v5_1 M7)
  unfold Ma_keepers_L76
  refine G_iload dX1_keepers_76 5 rfl ?_
  refine G_if_le 108 dX1_keepers_78 (by decide) (fun _ => ?_) (fun _ => ?_)
  refine G_sub [0, 1, 2, 3, 4] rfl ?_
  exact hkx M7
  refine G_aload_n dX1_keepers_81 0 rfl ?_
  refine G_getR hclX1 (by decide) rfl 1 (by decide) rfl wd_272 dX1_keepers_82 ?_
  refine G_iload dX1_keepers_85 5 rfl ?_
  refine G_aload_n dX1_keepers_87 0 rfl ?_
  refine G_iload dX1_keepers_88 4 rfl ?_
  refine G_iload dX1_keepers_90 5 rfl ?_
  refine G_aload_n dX1_keepers_92 2 rfl ?_
  refine G_getIN hclX3 (by decide) rfl 2 (by decide) rfl wn_289 dX1_keepers_93 ?_
  refine G_callV_I (m_Ma_bestFor _ _ _ M7) cal_Ma_bestFor ⟨Nat.le_of_ble_eq_true rfl, Nat.le_of_ble_eq_true rfl⟩ wd_864 hclX1 (by decide) rfl [.int v4_2, .int v5_1, .int (M7 28 2)] rfl rfl rfl (Nat.le_of_ble_eq_true rfl) dX1_keepers_96 (fun r_3 => ?_)
  refine G_callSN_V (m_SP_put 25 isA_25 _ _ M7) cal_SP_put ⟨Nat.le_of_ble_eq_true rfl, Nat.le_of_ble_eq_true rfl⟩ wn_871 rfl rfl (Nat.le_of_ble_eq_true rfl) dX1_keepers_99 (fun M8 => ?_)
  refine G_iinc (v5_1 + (-1)) dX1_keepers_102 5 rfl rfl (by decide) (L' := [(5, .int (v5_1 + (-1))), (0, .ref (ad 23)), (1, .ref (ad 26)), (2, .ref (ad 28)), (3, .int v3_4), (4, .int v4_2)]) rfl ?_
  refine G_goto 76 dX1_keepers_105 (by decide) ?_
  refine G_sub [1, 2, 3, 4, 5, 0] rfl ?_
  exact hag (v5_1 + (-1), M8)

set_option maxRecDepth 100000 in
set_option maxHeartbeats 4000000 in
theorem w_Ma_keepers_L64 (X : Cx) (ad : Nat → Nat) (v3_3 : Int32) (kx : Mem → Option (Int32 × Mem)) (hkx : ∀ (Me : Mem), G X ad mi_Ma_keepers (φIM) 114 [(0, .ref (ad 23)), (3, .int v3_3)] [] Me (kx Me)) : ∀ (n : Nat) (s : Int32 × Mem), G X ad mi_Ma_keepers (φIM) 64 [(0, .ref (ad 23)), (1, .ref (ad 26)), (2, .ref (ad 28)), (3, .int v3_3), (4, .int s.1)] [] s.2 (LOOP (fun aq sq => Ma_keepers_L64 v3_3 kx aq sq.1 sq.2) n s) := by
  refine LOOP_rule (fun (s : Int32 × Mem) o => G X ad mi_Ma_keepers (φIM) 64 [(0, .ref (ad 23)), (1, .ref (ad 26)), (2, .ref (ad 28)), (3, .int v3_3), (4, .int s.1)] [] s.2 o) (fun _ => G_none) (fun ag hag s => ?_)
  obtain ⟨v4_1, M6⟩ := s
  show G X ad mi_Ma_keepers (φIM) 64 [(0, .ref (ad 23)), (1, .ref (ad 26)), (2, .ref (ad 28)), (3, .int v3_3), (4, .int v4_1)] [] M6 (Ma_keepers_L64 v3_3 kx ag v4_1 M6)
  unfold Ma_keepers_L64
  refine G_iload dX1_keepers_64 4 rfl ?_
  refine G_aload_n dX1_keepers_66 1 rfl ?_
  refine G_getIN hclX3 (by decide) rfl 2 (by decide) rfl wn_289 dX1_keepers_67 ?_
  refine G_icmp_ge 114 dX1_keepers_70 (by decide) (fun _ => ?_) (fun _ => ?_)
  refine G_sub [0, 3] rfl ?_
  exact hkx M6
  refine G_iload_n dX1_keepers_73 3 rfl ?_
  refine G_istore dX1_keepers_74 (by decide) (L' := [(5, .int v3_3), (0, .ref (ad 23)), (1, .ref (ad 26)), (2, .ref (ad 28)), (3, .int v3_3), (4, .int v4_1)]) rfl ?_
  refine G_sub [1, 2, 3, 4, 5, 0] rfl ?_
  refine w_Ma_keepers_L76 X ad v3_3 v4_1 _ (fun M9 => ?_) _ _
  refine G_iinc (v4_1 + 1) dX1_keepers_108 4 rfl rfl (by decide) (L' := [(4, .int (v4_1 + 1)), (0, .ref (ad 23)), (1, .ref (ad 26)), (2, .ref (ad 28)), (3, .int v3_3)]) rfl ?_
  refine G_goto 64 dX1_keepers_111 (by decide) ?_
  refine G_sub [1, 2, 3, 4, 0] rfl ?_
  exact hag (v4_1 + 1, M9)

set_option maxRecDepth 100000 in
set_option maxHeartbeats 4000000 in
theorem m_Ma_keepers (M : Mem) : MC mi_Ma_keepers (φIM) (fun ad => [.ref (ad 23), .ref (ad 26), .ref (ad 28)]) M (Ma_keepers M) := by
  refine MC_of rfl (by decide +kernel) (fun ad => [(0, .ref (ad 23)), (1, .ref (ad 26)), (2, .ref (ad 28))]) (fun _ => rfl) (fun _ => Nat.le_of_ble_eq_true rfl) (fun X ad => ?_)
  show G X ad mi_Ma_keepers (φIM) 0 [(0, .ref (ad 23)), (1, .ref (ad 26)), (2, .ref (ad 28))] [] M _
  unfold Ma_keepers
  refine G_aload_n dX1_keepers_0 0 rfl ?_
  refine G_getR hclX1 (by decide) rfl 0 (by decide) rfl wd_271 dX1_keepers_1 ?_
  refine G_callSN_V (m_SP_wipe 24 isA_24 M) cal_SP_wipe ⟨Nat.le_of_ble_eq_true rfl, Nat.le_of_ble_eq_true rfl⟩ wn_861 rfl rfl (Nat.le_of_ble_eq_true rfl) dX1_keepers_4 (fun M1 => ?_)
  refine G_iconst (v := 0) dX1_keepers_7 rfl ?_
  refine G_istore_n 3 rfl dX1_keepers_8 (by decide) (L' := [(3, .int 0), (0, .ref (ad 23)), (1, .ref (ad 26)), (2, .ref (ad 28))]) rfl ?_
  refine G_sub [1, 2, 3, 0] rfl ?_
  refine w_Ma_keepers_L9 X ad _ (fun M4 => ?_) _ _
  refine G_aload_n dX1_keepers_45 0 rfl ?_
  refine G_getR hclX1 (by decide) rfl 1 (by decide) rfl wd_272 dX1_keepers_46 ?_
  refine G_callSN_V (m_SP_wipe 25 isA_25 M4) cal_SP_wipe ⟨Nat.le_of_ble_eq_true rfl, Nat.le_of_ble_eq_true rfl⟩ wn_861 rfl rfl (Nat.le_of_ble_eq_true rfl) dX1_keepers_49 (fun M5 => ?_)
  refine G_iconst (v := 1) dX1_keepers_52 rfl ?_
  refine G_aload_n dX1_keepers_53 2 rfl ?_
  refine G_getIN hclX3 (by decide) rfl 2 (by decide) rfl wn_289 dX1_keepers_54 ?_
  refine G_ishl dX1_keepers_57 ?_
  refine G_iconst (v := 1) dX1_keepers_58 rfl ?_
  refine G_isub dX1_keepers_59 ?_
  refine G_nmI (fun v3_2 => ?_)
  refine G_istore_n 3 rfl dX1_keepers_60 (by decide) (L' := [(3, .int v3_2), (0, .ref (ad 23)), (1, .ref (ad 26)), (2, .ref (ad 28))]) rfl ?_
  refine G_iconst (v := 0) dX1_keepers_61 rfl ?_
  refine G_istore dX1_keepers_62 (by decide) (L' := [(4, .int 0), (3, .int v3_2), (0, .ref (ad 23)), (1, .ref (ad 26)), (2, .ref (ad 28))]) rfl ?_
  refine G_sub [2, 3, 4, 1, 0] rfl ?_
  refine w_Ma_keepers_L64 X ad v3_2 _ (fun M10 => ?_) _ _
  refine G_aload_n dX1_keepers_114 0 rfl ?_
  refine G_getR hclX1 (by decide) rfl 1 (by decide) rfl wd_272 dX1_keepers_115 ?_
  refine G_iload_n dX1_keepers_118 1 rfl ?_
  refine G_callSN_I (m_SP_at 25 isA_25 _ M10) cal_SP_at ⟨Nat.le_of_ble_eq_true rfl, Nat.le_of_ble_eq_true rfl⟩ wn_868 rfl rfl (Nat.le_of_ble_eq_true rfl) dX1_keepers_119 (fun r_4 => ?_)
  exact G_ireturn rfl rfl dX1_keepers_122 rfl

set_option maxRecDepth 100000 in
set_option maxHeartbeats 4000000 in
theorem m_SP_shift (v1 : Int32) (v2 : Int32) (v3 : Int32) (M : Mem) : MC mi_SP_shift (φIM) (fun ad => [.ref (ad 0), .int v1, .int v2, .int v3]) M (SP_shift v1 v2 v3 M) := by
  refine MC_of rfl (by decide +kernel) (fun ad => [(0, .ref (ad 0)), (1, .int v1), (2, .int v2), (3, .int v3)]) (fun _ => rfl) (fun _ => Nat.le_of_ble_eq_true rfl) (fun X ad => ?_)
  show G X ad mi_SP_shift (φIM) 0 [(0, .ref (ad 0)), (1, .int v1), (2, .int v2), (3, .int v3)] [] M _
  unfold SP_shift
  refine G_iload_n dX9_shift_0 3 rfl ?_
  refine G_callS_I (m_SP_isSameness _ M) cal_SP_isSameness ⟨Nat.le_of_ble_eq_true rfl, Nat.le_of_ble_eq_true rfl⟩ wd_518 rfl rfl (Nat.le_of_ble_eq_true rfl) dX9_shift_1 (fun r_1 => ?_)
  refine G_if_ne 13 dX9_shift_4 (by decide) (fun _ => ?_) (fun _ => ?_)
  refine G_aload_n dX9_shift_7 0 rfl ?_
  refine G_iconst (v := -1) dX9_shift_8 rfl ?_
  refine G_callV_IM (m_SP_refuse _ M) cal_SP_refuse ⟨Nat.le_of_ble_eq_true rfl, Nat.le_of_ble_eq_true rfl⟩ wd_351 hclX9 (by decide) rfl [.int (-1)] rfl rfl rfl (Nat.le_of_ble_eq_true rfl) dX9_shift_9 (fun r_2 M1 => ?_)
  exact G_ireturn rfl rfl dX9_shift_12 rfl
  refine G_iload_n dX9_shift_13 1 rfl ?_
  refine G_jp (fun kq => G X ad mi_SP_shift (φIM) 21 [(0, .ref (ad 0))] [] M (kq)) ?_ (fun k_1 hk_1 => ?_)
  refine G_aload_n dX9_shift_21 0 rfl ?_
  refine G_bipush (v := -4) dX9_shift_22 rfl ?_
  refine G_callV_IM (m_SP_refuse _ M) cal_SP_refuse ⟨Nat.le_of_ble_eq_true rfl, Nat.le_of_ble_eq_true rfl⟩ wd_351 hclX9 (by decide) rfl [.int (-4)] rfl rfl rfl (Nat.le_of_ble_eq_true rfl) dX9_shift_24 (fun r_3 M2 => ?_)
  exact G_ireturn rfl rfl dX9_shift_27 rfl
  refine G_if_lt 21 dX9_shift_14 (by decide) (fun _ => ?_) (fun _ => ?_)
  refine G_sub [0] rfl ?_
  exact hk_1
  refine G_iload_n dX9_shift_17 2 rfl ?_
  refine G_if_ge 28 dX9_shift_18 (by decide) (fun _ => ?_) (fun _ => ?_)
  refine G_iload_n dX9_shift_28 1 rfl ?_
  refine G_bipush (v := 100) dX9_shift_29 rfl ?_
  refine G_jp (fun kq => G X ad mi_SP_shift (φIM) 40 [(0, .ref (ad 0))] [] M (kq)) ?_ (fun k_2 hk_2 => ?_)
  refine G_aload_n dX9_shift_40 0 rfl ?_
  refine G_bipush (v := -6) dX9_shift_41 rfl ?_
  refine G_callV_IM (m_SP_refuse _ M) cal_SP_refuse ⟨Nat.le_of_ble_eq_true rfl, Nat.le_of_ble_eq_true rfl⟩ wd_351 hclX9 (by decide) rfl [.int (-6)] rfl rfl rfl (Nat.le_of_ble_eq_true rfl) dX9_shift_43 (fun r_4 M3 => ?_)
  exact G_ireturn rfl rfl dX9_shift_46 rfl
  refine G_icmp_gt 40 dX9_shift_31 (by decide) (fun _ => ?_) (fun _ => ?_)
  refine G_sub [0] rfl ?_
  exact hk_2
  refine G_iload_n dX9_shift_34 2 rfl ?_
  refine G_bipush (v := 100) dX9_shift_35 rfl ?_
  refine G_icmp_le 47 dX9_shift_37 (by decide) (fun _ => ?_) (fun _ => ?_)
  refine G_aload_n dX9_shift_47 0 rfl ?_
  refine G_iload_n dX9_shift_48 1 rfl ?_
  refine G_iload_n dX9_shift_49 3 rfl ?_
  refine G_aload_n dX9_shift_50 0 rfl ?_
  refine G_getR hclX9 (by decide) rfl 8 (by decide) rfl wd_315 dX9_shift_51 ?_
  refine G_callV_V (m_SP_partOfYear _ _ 26 isP_26 M) cal_SP_partOfYear ⟨Nat.le_of_ble_eq_true rfl, Nat.le_of_ble_eq_true rfl⟩ wd_853 hclX9 (by decide) rfl [.int v1, .int v3, .ref (ad 26)] rfl rfl rfl (Nat.le_of_ble_eq_true rfl) dX9_shift_54 (fun M4 => ?_)
  refine G_aload_n dX9_shift_57 0 rfl ?_
  refine G_iload_n dX9_shift_58 2 rfl ?_
  refine G_iload_n dX9_shift_59 3 rfl ?_
  refine G_aload_n dX9_shift_60 0 rfl ?_
  refine G_getR hclX9 (by decide) rfl 9 (by decide) rfl wd_316 dX9_shift_61 ?_
  refine G_callV_V (m_SP_partOfYear _ _ 28 isP_28 M4) cal_SP_partOfYear ⟨Nat.le_of_ble_eq_true rfl, Nat.le_of_ble_eq_true rfl⟩ wd_853 hclX9 (by decide) rfl [.int v2, .int v3, .ref (ad 28)] rfl rfl rfl (Nat.le_of_ble_eq_true rfl) dX9_shift_64 (fun M5 => ?_)
  refine G_aload_n dX9_shift_67 0 rfl ?_
  refine G_getR hclX9 (by decide) rfl 0 (by decide) rfl wd_307 dX9_shift_68 ?_
  refine G_getIN hclX7 (by decide) rfl 2 (by decide) rfl wn_147 dX9_shift_71 ?_
  refine G_aload_n dX9_shift_74 0 rfl ?_
  refine G_getR hclX9 (by decide) rfl 7 (by decide) rfl wd_314 dX9_shift_75 ?_
  refine G_aload_n dX9_shift_78 0 rfl ?_
  refine G_getR hclX9 (by decide) rfl 8 (by decide) rfl wd_315 dX9_shift_79 ?_
  refine G_aload_n dX9_shift_82 0 rfl ?_
  refine G_getR hclX9 (by decide) rfl 9 (by decide) rfl wd_316 dX9_shift_83 ?_
  refine G_callVN_IM (m_Ma_keepers M5) cal_Ma_keepers ⟨Nat.le_of_ble_eq_true rfl, Nat.le_of_ble_eq_true rfl⟩ wn_857 hclX1 (by decide) rfl [.ref (ad 26), .ref (ad 28)] rfl rfl rfl (Nat.le_of_ble_eq_true rfl) dX9_shift_86 (fun r_5 M6 => ?_)
  refine G_isub dX9_shift_89 ?_
  exact G_ireturn rfl rfl dX9_shift_90 rfl
  refine G_sub [0] rfl ?_
  exact hk_2
  refine G_sub [0] rfl ?_
  exact hk_1

