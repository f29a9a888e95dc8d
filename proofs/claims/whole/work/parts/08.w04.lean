/-! printed by wip/whole/gen.py: the bytecode does what the functions say -/
set_option maxRecDepth 100000 in
set_option maxHeartbeats 4000000 in
theorem w_Td_nextChange_L5 (X : Cx) (ad : Nat → Nat) (v1_1 : Int32) (M : Mem) (kx : Int32 → Option Int32) (hkx : ∀ (e2 : Int32), G X ad mi_Td_nextChange (φI M) 61 [(2, .int e2)] [] M (kx e2)) : ∀ (n : Nat) (s : Int32 × Int32), G X ad mi_Td_nextChange (φI M) 5 [(0, .ref (ad 4)), (1, .int v1_1), (2, .int s.1), (3, .int s.2)] [] M (LOOP (fun aq sq => Td_nextChange_L5 v1_1 M kx aq sq.1 sq.2) n s) := by
  refine LOOP_rule (fun (s : Int32 × Int32) o => G X ad mi_Td_nextChange (φI M) 5 [(0, .ref (ad 4)), (1, .int v1_1), (2, .int s.1), (3, .int s.2)] [] M o) (fun _ => G_none) (fun ag hag s => ?_)
  obtain ⟨v2_1, v3_1⟩ := s
  show G X ad mi_Td_nextChange (φI M) 5 [(0, .ref (ad 4)), (1, .int v1_1), (2, .int v2_1), (3, .int v3_1)] [] M (Td_nextChange_L5 v1_1 M kx ag v2_1 v3_1)
  unfold Td_nextChange_L5
  refine G_iload_n dX6_nextChange_5 3 rfl ?_
  refine G_aload_n dX6_nextChange_6 0 rfl ?_
  refine G_getI hclX6 (by decide) rfl 1 (by decide) rfl wd_165 dX6_nextChange_7 ?_
  refine G_icmp_ge 61 dX6_nextChange_10 (by decide) (fun _ => ?_) (fun _ => ?_)
  refine G_sub [2] rfl ?_
  exact hkx v2_1
  refine G_aload_n dX6_nextChange_13 0 rfl ?_
  refine G_iload_n dX6_nextChange_14 3 rfl ?_
  refine G_iconst (v := 4) dX6_nextChange_15 rfl ?_
  refine G_callV_I (m_Td_field 4 isT_4 _ _ M) cal_Td_field ⟨Nat.le_of_ble_eq_true rfl, Nat.le_of_ble_eq_true rfl⟩ wd_450 hclX6 (by decide) rfl [.int v3_1, .int 4] rfl rfl rfl (Nat.le_of_ble_eq_true rfl) dX6_nextChange_16 (fun r_1 => ?_)
  refine G_iload_n dX6_nextChange_19 1 rfl ?_
  refine G_jp (fun kq => ∀ (v2_2 : Int32), G X ad mi_Td_nextChange (φI M) 34 [(0, .ref (ad 4)), (1, .int v1_1), (2, .int v2_2), (3, .int v3_1)] [] M (kq v2_2)) (fun v2_2 => ?_) (fun k_1 hk_1 => ?_)
  refine G_aload_n dX6_nextChange_34 0 rfl ?_
  refine G_iload_n dX6_nextChange_35 3 rfl ?_
  refine G_iconst (v := 5) dX6_nextChange_36 rfl ?_
  refine G_callV_I (m_Td_field 4 isT_4 _ _ M) cal_Td_field ⟨Nat.le_of_ble_eq_true rfl, Nat.le_of_ble_eq_true rfl⟩ wd_450 hclX6 (by decide) rfl [.int v3_1, .int 5] rfl rfl rfl (Nat.le_of_ble_eq_true rfl) dX6_nextChange_37 (fun r_2 => ?_)
  refine G_iload_n dX6_nextChange_40 1 rfl ?_
  refine G_icmp_le 55 dX6_nextChange_41 (by decide) (fun _ => ?_) (fun _ => ?_)
  refine G_iinc (v3_1 + 1) dX6_nextChange_55 3 rfl rfl (by decide) (L' := [(3, .int (v3_1 + 1)), (0, .ref (ad 4)), (1, .int v1_1), (2, .int v2_2)]) rfl ?_
  refine G_goto 5 dX6_nextChange_58 (by decide) ?_
  refine G_sub [1, 2, 3, 0] rfl ?_
  exact hag (v2_2, v3_1 + 1)
  refine G_iload_n dX6_nextChange_44 2 rfl ?_
  refine G_aload_n dX6_nextChange_45 0 rfl ?_
  refine G_iload_n dX6_nextChange_46 3 rfl ?_
  refine G_iconst (v := 5) dX6_nextChange_47 rfl ?_
  refine G_callV_I (m_Td_field 4 isT_4 _ _ M) cal_Td_field ⟨Nat.le_of_ble_eq_true rfl, Nat.le_of_ble_eq_true rfl⟩ wd_450 hclX6 (by decide) rfl [.int v3_1, .int 5] rfl rfl rfl (Nat.le_of_ble_eq_true rfl) dX6_nextChange_48 (fun r_3 => ?_)
  refine G_mmin wd_880 (Nat.le_of_ble_eq_true rfl) (Nat.le_of_ble_eq_true rfl) dX6_nextChange_51 ?_
  refine G_nmI (fun v2_3 => ?_)
  refine G_istore_n 2 rfl dX6_nextChange_54 (by decide) (L' := [(2, .int v2_3), (0, .ref (ad 4)), (1, .int v1_1), (3, .int v3_1)]) rfl ?_
  refine G_iinc (v3_1 + 1) dX6_nextChange_55 3 rfl rfl (by decide) (L' := [(3, .int (v3_1 + 1)), (2, .int v2_3), (0, .ref (ad 4)), (1, .int v1_1)]) rfl ?_
  refine G_goto 5 dX6_nextChange_58 (by decide) ?_
  refine G_sub [2, 3, 1, 0] rfl ?_
  exact hag (v2_3, v3_1 + 1)
  refine G_icmp_le 34 dX6_nextChange_20 (by decide) (fun _ => ?_) (fun _ => ?_)
  refine G_sub [0, 1, 2, 3] rfl ?_
  exact hk_1 v2_1
  refine G_iload_n dX6_nextChange_23 2 rfl ?_
  refine G_aload_n dX6_nextChange_24 0 rfl ?_
  refine G_iload_n dX6_nextChange_25 3 rfl ?_
  refine G_iconst (v := 4) dX6_nextChange_26 rfl ?_
  refine G_callV_I (m_Td_field 4 isT_4 _ _ M) cal_Td_field ⟨Nat.le_of_ble_eq_true rfl, Nat.le_of_ble_eq_true rfl⟩ wd_450 hclX6 (by decide) rfl [.int v3_1, .int 4] rfl rfl rfl (Nat.le_of_ble_eq_true rfl) dX6_nextChange_27 (fun r_4 => ?_)
  refine G_mmin wd_880 (Nat.le_of_ble_eq_true rfl) (Nat.le_of_ble_eq_true rfl) dX6_nextChange_30 ?_
  refine G_nmI (fun v2_4 => ?_)
  refine G_istore_n 2 rfl dX6_nextChange_33 (by decide) (L' := [(2, .int v2_4), (0, .ref (ad 4)), (1, .int v1_1), (3, .int v3_1)]) rfl ?_
  refine G_sub [1, 2, 0, 3] rfl ?_
  exact hk_1 v2_4

set_option maxRecDepth 100000 in
set_option maxHeartbeats 4000000 in
theorem m_Td_nextChange (v1 : Int32) (M : Mem) : MC mi_Td_nextChange (φI M) (fun ad => [.ref (ad 4), .int v1]) M (Td_nextChange v1 M) := by
  refine MC_of rfl (by decide +kernel) (fun ad => [(0, .ref (ad 4)), (1, .int v1)]) (fun _ => rfl) (fun _ => Nat.le_of_ble_eq_true rfl) (fun X ad => ?_)
  show G X ad mi_Td_nextChange (φI M) 0 [(0, .ref (ad 4)), (1, .int v1)] [] M _
  unfold Td_nextChange
  refine G_bipush (v := 101) dX6_nextChange_0 rfl ?_
  refine G_istore_n 2 rfl dX6_nextChange_2 (by decide) (L' := [(2, .int 101), (0, .ref (ad 4)), (1, .int v1)]) rfl ?_
  refine G_iconst (v := 0) dX6_nextChange_3 rfl ?_
  refine G_istore_n 3 rfl dX6_nextChange_4 (by decide) (L' := [(3, .int 0), (2, .int 101), (0, .ref (ad 4)), (1, .int v1)]) rfl ?_
  refine G_sub [2, 3, 1, 0] rfl ?_
  refine w_Td_nextChange_L5 X ad v1 M _ (fun v2_5 => ?_) _ _
  refine G_iload_n dX6_nextChange_61 0 rfl ?_
  exact G_ireturn rfl rfl dX6_nextChange_62 rfl

set_option maxRecDepth 100000 in
set_option maxHeartbeats 4000000 in
theorem w_SP_stays_L68 (X : Cx) (ad : Nat → Nat) (v1_1 : Int32) (v2_1 : Int32) (v3_1 : Int32) (kx : Int32 → Mem → Option (Int32 × Mem)) (hkx : ∀ (e4 : Int32) (Me : Mem), G X ad mi_SP_stays (φIM) 124 [(1, .int v1_1), (4, .int e4)] [] Me (kx e4 Me)) : ∀ (n : Nat) (s : Int32 × Int32 × Mem), G X ad mi_SP_stays (φIM) 68 [(0, .ref (ad 0)), (1, .int v1_1), (2, .int v2_1), (3, .int v3_1), (4, .int s.1), (5, .int s.2.1)] [] s.2.2 (LOOP (fun aq sq => SP_stays_L68 v2_1 v3_1 kx aq sq.1 sq.2.1 sq.2.2) n s) := by
  refine LOOP_rule (fun (s : Int32 × Int32 × Mem) o => G X ad mi_SP_stays (φIM) 68 [(0, .ref (ad 0)), (1, .int v1_1), (2, .int v2_1), (3, .int v3_1), (4, .int s.1), (5, .int s.2.1)] [] s.2.2 o) (fun _ => G_none) (fun ag hag s => ?_)
  obtain ⟨v4_1, v5_1, M3⟩ := s
  show G X ad mi_SP_stays (φIM) 68 [(0, .ref (ad 0)), (1, .int v1_1), (2, .int v2_1), (3, .int v3_1), (4, .int v4_1), (5, .int v5_1)] [] M3 (SP_stays_L68 v2_1 v3_1 kx ag v4_1 v5_1 M3)
  unfold SP_stays_L68
  refine G_iload dX9_stays_68 5 rfl ?_
  refine G_bipush (v := 100) dX9_stays_70 rfl ?_
  refine G_icmp_gt 124 dX9_stays_72 (by decide) (fun _ => ?_) (fun _ => ?_)
  refine G_sub [1, 4] rfl ?_
  exact hkx v4_1 M3
  refine G_iload dX9_stays_75 4 rfl ?_
  refine G_bipush (v := 100) dX9_stays_77 rfl ?_
  refine G_icmp_gt 124 dX9_stays_79 (by decide) (fun _ => ?_) (fun _ => ?_)
  refine G_sub [1, 4] rfl ?_
  exact hkx v4_1 M3
  refine G_aload_n dX9_stays_82 0 rfl ?_
  refine G_iload dX9_stays_83 4 rfl ?_
  refine G_iload_n dX9_stays_85 2 rfl ?_
  refine G_aload_n dX9_stays_86 0 rfl ?_
  refine G_getR hclX9 (by decide) rfl 8 (by decide) rfl wd_315 dX9_stays_87 ?_
  refine G_callV_V (m_SP_partOfYear _ _ 26 isP_26 M3) cal_SP_partOfYear ⟨Nat.le_of_ble_eq_true rfl, Nat.le_of_ble_eq_true rfl⟩ wd_853 hclX9 (by decide) rfl [.int v4_1, .int v2_1, .ref (ad 26)] rfl rfl rfl (Nat.le_of_ble_eq_true rfl) dX9_stays_90 (fun M4 => ?_)
  refine G_aload_n dX9_stays_93 0 rfl ?_
  refine G_getR hclX9 (by decide) rfl 8 (by decide) rfl wd_315 dX9_stays_94 ?_
  refine G_callVN_I (m_Pa_number 26 isP_26 M4) cal_Pa_number ⟨Nat.le_of_ble_eq_true rfl, Nat.le_of_ble_eq_true rfl⟩ wn_586 hclX3 (by decide) rfl [] rfl rfl rfl (Nat.le_of_ble_eq_true rfl) dX9_stays_97 (fun r_5 => ?_)
  refine G_iload_n dX9_stays_100 3 rfl ?_
  refine G_icmp_eq 107 dX9_stays_101 (by decide) (fun _ => ?_) (fun _ => ?_)
  refine G_aload_n dX9_stays_107 0 rfl ?_
  refine G_getR hclX9 (by decide) rfl 1 (by decide) rfl wd_308 dX9_stays_108 ?_
  refine G_iload dX9_stays_111 4 rfl ?_
  refine G_callVN_I (m_Td_nextChange _ M4) cal_Td_nextChange ⟨Nat.le_of_ble_eq_true rfl, Nat.le_of_ble_eq_true rfl⟩ wn_876 hclX6 (by decide) rfl [.int v4_1] rfl rfl rfl (Nat.le_of_ble_eq_true rfl) dX9_stays_113 (fun r_6 => ?_)
  refine G_istore dX9_stays_116 (by decide) (L' := [(4, .int r_6), (0, .ref (ad 0)), (1, .int v1_1), (2, .int v2_1), (3, .int v3_1), (5, .int v5_1)]) rfl ?_
  refine G_iinc (v5_1 + 1) dX9_stays_118 5 rfl rfl (by decide) (L' := [(5, .int (v5_1 + 1)), (4, .int r_6), (0, .ref (ad 0)), (1, .int v1_1), (2, .int v2_1), (3, .int v3_1)]) rfl ?_
  refine G_goto 68 dX9_stays_121 (by decide) ?_
  refine G_sub [2, 3, 4, 5, 1, 0] rfl ?_
  exact hag (r_6, v5_1 + 1, M4)
  refine G_goto 124 dX9_stays_104 (by decide) ?_
  refine G_sub [1, 4] rfl ?_
  exact hkx v4_1 M4

set_option maxRecDepth 100000 in
set_option maxHeartbeats 4000000 in
theorem m_SP_stays (v1 : Int32) (v2 : Int32) (M : Mem) : MC mi_SP_stays (φIM) (fun ad => [.ref (ad 0), .int v1, .int v2]) M (SP_stays v1 v2 M) := by
  refine MC_of rfl (by decide +kernel) (fun ad => [(0, .ref (ad 0)), (1, .int v1), (2, .int v2)]) (fun _ => rfl) (fun _ => Nat.le_of_ble_eq_true rfl) (fun X ad => ?_)
  show G X ad mi_SP_stays (φIM) 0 [(0, .ref (ad 0)), (1, .int v1), (2, .int v2)] [] M _
  unfold SP_stays
  refine G_iload_n dX9_stays_0 2 rfl ?_
  refine G_callS_I (m_SP_isSameness _ M) cal_SP_isSameness ⟨Nat.le_of_ble_eq_true rfl, Nat.le_of_ble_eq_true rfl⟩ wd_518 rfl rfl (Nat.le_of_ble_eq_true rfl) dX9_stays_1 (fun r_1 => ?_)
  refine G_if_ne 13 dX9_stays_4 (by decide) (fun _ => ?_) (fun _ => ?_)
  refine G_aload_n dX9_stays_7 0 rfl ?_
  refine G_iconst (v := -1) dX9_stays_8 rfl ?_
  refine G_callV_IM (m_SP_refuse _ M) cal_SP_refuse ⟨Nat.le_of_ble_eq_true rfl, Nat.le_of_ble_eq_true rfl⟩ wd_351 hclX9 (by decide) rfl [.int (-1)] rfl rfl rfl (Nat.le_of_ble_eq_true rfl) dX9_stays_9 (fun r_2 M1 => ?_)
  exact G_ireturn rfl rfl dX9_stays_12 rfl
  refine G_iload_n dX9_stays_13 1 rfl ?_
  refine G_if_ge 24 dX9_stays_14 (by decide) (fun _ => ?_) (fun _ => ?_)
  refine G_iload_n dX9_stays_24 1 rfl ?_
  refine G_bipush (v := 100) dX9_stays_25 rfl ?_
  refine G_icmp_le 37 dX9_stays_27 (by decide) (fun _ => ?_) (fun _ => ?_)
  refine G_aload_n dX9_stays_37 0 rfl ?_
  refine G_iload_n dX9_stays_38 1 rfl ?_
  refine G_iload_n dX9_stays_39 2 rfl ?_
  refine G_aload_n dX9_stays_40 0 rfl ?_
  refine G_getR hclX9 (by decide) rfl 8 (by decide) rfl wd_315 dX9_stays_41 ?_
  refine G_callV_V (m_SP_partOfYear _ _ 26 isP_26 M) cal_SP_partOfYear ⟨Nat.le_of_ble_eq_true rfl, Nat.le_of_ble_eq_true rfl⟩ wd_853 hclX9 (by decide) rfl [.int v1, .int v2, .ref (ad 26)] rfl rfl rfl (Nat.le_of_ble_eq_true rfl) dX9_stays_44 (fun M2 => ?_)
  refine G_aload_n dX9_stays_47 0 rfl ?_
  refine G_getR hclX9 (by decide) rfl 8 (by decide) rfl wd_315 dX9_stays_48 ?_
  refine G_callVN_I (m_Pa_number 26 isP_26 M2) cal_Pa_number ⟨Nat.le_of_ble_eq_true rfl, Nat.le_of_ble_eq_true rfl⟩ wn_586 hclX3 (by decide) rfl [] rfl rfl rfl (Nat.le_of_ble_eq_true rfl) dX9_stays_51 (fun r_3 => ?_)
  refine G_istore_n 3 rfl dX9_stays_54 (by decide) (L' := [(3, .int r_3), (0, .ref (ad 0)), (1, .int v1), (2, .int v2)]) rfl ?_
  refine G_aload_n dX9_stays_55 1 rfl ?_
  refine G_getR hclX9 (by decide) rfl 1 (by decide) rfl wd_308 dX9_stays_56 ?_
  refine G_iload_n dX9_stays_59 2 rfl ?_
  refine G_callVN_I (m_Td_nextChange _ M2) cal_Td_nextChange ⟨Nat.le_of_ble_eq_true rfl, Nat.le_of_ble_eq_true rfl⟩ wn_876 hclX6 (by decide) rfl [.int v1] rfl rfl rfl (Nat.le_of_ble_eq_true rfl) dX9_stays_60 (fun r_4 => ?_)
  refine G_istore dX9_stays_63 (by decide) (L' := [(4, .int r_4), (3, .int r_3), (0, .ref (ad 0)), (1, .int v1), (2, .int v2)]) rfl ?_
  refine G_iconst (v := 0) dX9_stays_65 rfl ?_
  refine G_istore dX9_stays_66 (by decide) (L' := [(5, .int 0), (4, .int r_4), (3, .int r_3), (0, .ref (ad 0)), (1, .int v1), (2, .int v2)]) rfl ?_
  refine G_sub [3, 4, 5, 2, 1, 0] rfl ?_
  refine w_SP_stays_L68 X ad v1 v2 r_3 _ (fun v4_2 M5 => ?_) _ _
  refine G_iload dX9_stays_124 1 rfl ?_
  refine G_iload_n dX9_stays_126 0 rfl ?_
  refine G_isub dX9_stays_127 ?_
  exact G_ireturn rfl rfl dX9_stays_128 rfl
  refine G_aload_n dX9_stays_30 0 rfl ?_
  refine G_bipush (v := -6) dX9_stays_31 rfl ?_
  refine G_callV_IM (m_SP_refuse _ M) cal_SP_refuse ⟨Nat.le_of_ble_eq_true rfl, Nat.le_of_ble_eq_true rfl⟩ wd_351 hclX9 (by decide) rfl [.int (-6)] rfl rfl rfl (Nat.le_of_ble_eq_true rfl) dX9_stays_33 (fun r_7 M6 => ?_)
  exact G_ireturn rfl rfl dX9_stays_36 rfl
  refine G_aload_n dX9_stays_17 0 rfl ?_
  refine G_bipush (v := -4) dX9_stays_18 rfl ?_
  refine G_callV_IM (m_SP_refuse _ M) cal_SP_refuse ⟨Nat.le_of_ble_eq_true rfl, Nat.le_of_ble_eq_true rfl⟩ wd_351 hclX9 (by decide) rfl [.int (-4)] rfl rfl rfl (Nat.le_of_ble_eq_true rfl) dX9_stays_20 (fun r_8 M7 => ?_)
  exact G_ireturn rfl rfl dX9_stays_23 rfl

set_option maxRecDepth 100000 in
set_option maxHeartbeats 4000000 in
theorem w_To_tiesInAll_L4 (X : Cx) (ad : Nat → Nat) (M : Mem) (kx : Int32 → Option Int32) (hkx : ∀ (e1 : Int32), G X ad mi_To_tiesInAll (φI M) 23 [(1, .int e1)] [] M (kx e1)) : ∀ (n : Nat) (s : Int32 × Int32), G X ad mi_To_tiesInAll (φI M) 4 [(0, .ref (ad 1)), (1, .int s.1), (2, .int s.2)] [] M (LOOP (fun aq sq => To_tiesInAll_L4 M kx aq sq.1 sq.2) n s) := by
  refine LOOP_rule (fun (s : Int32 × Int32) o => G X ad mi_To_tiesInAll (φI M) 4 [(0, .ref (ad 1)), (1, .int s.1), (2, .int s.2)] [] M o) (fun _ => G_none) (fun ag hag s => ?_)
  obtain ⟨v1_1, v2_1⟩ := s
  show G X ad mi_To_tiesInAll (φI M) 4 [(0, .ref (ad 1)), (1, .int v1_1), (2, .int v2_1)] [] M (To_tiesInAll_L4 M kx ag v1_1 v2_1)
  unfold To_tiesInAll_L4
  refine G_iload_n dX7_tiesInAll_4 2 rfl ?_
  refine G_iconst (v := 3) dX7_tiesInAll_5 rfl ?_
  refine G_icmp_ge 23 dX7_tiesInAll_6 (by decide) (fun _ => ?_) (fun _ => ?_)
  refine G_sub [1] rfl ?_
  exact hkx v1_1
  refine G_iload_n dX7_tiesInAll_9 1 rfl ?_
  refine G_aload_n dX7_tiesInAll_10 0 rfl ?_
  refine G_iload_n dX7_tiesInAll_11 2 rfl ?_
  refine G_callV_I (m_To_tiesOfKind _ M) cal_To_tiesOfKind ⟨Nat.le_of_ble_eq_true rfl, Nat.le_of_ble_eq_true rfl⟩ wd_889 hclX7 (by decide) rfl [.int v2_1] rfl rfl rfl (Nat.le_of_ble_eq_true rfl) dX7_tiesInAll_12 (fun r_1 => ?_)
  refine G_iadd dX7_tiesInAll_15 ?_
  refine G_nmI (fun v1_2 => ?_)
  refine G_istore_n 1 rfl dX7_tiesInAll_16 (by decide) (L' := [(1, .int v1_2), (0, .ref (ad 1)), (2, .int v2_1)]) rfl ?_
  refine G_iinc (v2_1 + 1) dX7_tiesInAll_17 2 rfl rfl (by decide) (L' := [(2, .int (v2_1 + 1)), (1, .int v1_2), (0, .ref (ad 1))]) rfl ?_
  refine G_goto 4 dX7_tiesInAll_20 (by decide) ?_
  refine G_sub [2, 1, 0] rfl ?_
  exact hag (v1_2, v2_1 + 1)

set_option maxRecDepth 100000 in
set_option maxHeartbeats 4000000 in
theorem m_To_tiesInAll (M : Mem) : MC mi_To_tiesInAll (φI M) (fun ad => [.ref (ad 1)]) M (To_tiesInAll M) := by
  refine MC_of rfl (by decide +kernel) (fun ad => [(0, .ref (ad 1))]) (fun _ => rfl) (fun _ => Nat.le_of_ble_eq_true rfl) (fun X ad => ?_)
  show G X ad mi_To_tiesInAll (φI M) 0 [(0, .ref (ad 1))] [] M _
  unfold To_tiesInAll
  refine G_iconst (v := 0) dX7_tiesInAll_0 rfl ?_
  refine G_istore_n 1 rfl dX7_tiesInAll_1 (by decide) (L' := [(1, .int 0), (0, .ref (ad 1))]) rfl ?_
  refine G_iconst (v := 0) dX7_tiesInAll_2 rfl ?_
  refine G_istore_n 2 rfl dX7_tiesInAll_3 (by decide) (L' := [(2, .int 0), (1, .int 0), (0, .ref (ad 1))]) rfl ?_
  refine G_sub [2, 1, 0] rfl ?_
  refine w_To_tiesInAll_L4 X ad M _ (fun v1_3 => ?_) _ _
  refine G_iload_n dX7_tiesInAll_23 0 rfl ?_
  exact G_ireturn rfl rfl dX7_tiesInAll_24 rfl

set_option maxRecDepth 100000 in
set_option maxHeartbeats 4000000 in
theorem m_SP_count (v1 : Int32) (M : Mem) : MC mi_SP_count (φIM) (fun ad => [.ref (ad 0), .int v1]) M (SP_count v1 M) := by
  refine MC_of rfl (by decide +kernel) (fun ad => [(0, .ref (ad 0)), (1, .int v1)]) (fun _ => rfl) (fun _ => Nat.le_of_ble_eq_true rfl) (fun X ad => ?_)
  show G X ad mi_SP_count (φIM) 0 [(0, .ref (ad 0)), (1, .int v1)] [] M _
  unfold SP_count
  refine G_iload_n dX9_count_0 1 rfl ?_
  refine G_ite (fun hc0 => ?_) (fun hc0 => ?_)
  refine G_tswIn 0 40 dX9_count_1 hc0 (by decide) (by decide) rfl (by decide) ?_
  refine G_aload_n dX9_count_40 0 rfl ?_
  refine G_getR hclX9 (by decide) rfl 0 (by decide) rfl wd_307 dX9_count_41 ?_
  refine G_getIN hclX7 (by decide) rfl 2 (by decide) rfl wn_147 dX9_count_44 ?_
  exact G_ireturn rfl rfl dX9_count_47 rfl
  refine G_ite (fun hc1 => ?_) (fun hc1 => ?_)
  refine G_tswIn 1 48 dX9_count_1 hc1 (by decide) (by decide) rfl (by decide) ?_
  refine G_aload_n dX9_count_48 0 rfl ?_
  refine G_getR hclX9 (by decide) rfl 1 (by decide) rfl wd_308 dX9_count_49 ?_
  refine G_getIN hclX6 (by decide) rfl 1 (by decide) rfl wn_166 dX9_count_52 ?_
  exact G_ireturn rfl rfl dX9_count_55 rfl
  refine G_ite (fun hc2 => ?_) (fun hc2 => ?_)
  refine G_tswIn 2 56 dX9_count_1 hc2 (by decide) (by decide) rfl (by decide) ?_
  refine G_aload_n dX9_count_56 0 rfl ?_
  refine G_aload_n dX9_count_57 0 rfl ?_
  refine G_getI hclX9 (by decide) rfl 12 (by decide) rfl wd_319 dX9_count_58 ?_
  refine G_callV_V (m_SP_lookAt _ M) cal_SP_lookAt ⟨Nat.le_of_ble_eq_true rfl, Nat.le_of_ble_eq_true rfl⟩ wd_468 hclX9 (by decide) rfl [.int (M 0 12)] rfl rfl rfl (Nat.le_of_ble_eq_true rfl) dX9_count_61 (fun M1 => ?_)
  refine G_aload_n dX9_count_64 0 rfl ?_
  refine G_getR hclX9 (by decide) rfl 0 (by decide) rfl wd_307 dX9_count_65 ?_
  refine G_callVN_I (m_To_tiesInAll M1) cal_To_tiesInAll ⟨Nat.le_of_ble_eq_true rfl, Nat.le_of_ble_eq_true rfl⟩ wn_885 hclX7 (by decide) rfl [] rfl rfl rfl (Nat.le_of_ble_eq_true rfl) dX9_count_68 (fun r_1 => ?_)
  exact G_ireturn rfl rfl dX9_count_71 rfl
  refine G_ite (fun hc3 => ?_) (fun hc3 => ?_)
  refine G_tswIn 3 72 dX9_count_1 hc3 (by decide) (by decide) rfl (by decide) ?_
  refine G_aload_n dX9_count_72 0 rfl ?_
  refine G_getI hclX9 (by decide) rfl 12 (by decide) rfl wd_319 dX9_count_73 ?_
  exact G_ireturn rfl rfl dX9_count_76 rfl
  refine G_ite (fun hc4 => ?_) (fun hc4 => ?_)
  refine G_tswIn 4 77 dX9_count_1 hc4 (by decide) (by decide) rfl (by decide) ?_
  refine G_aload_n dX9_count_77 0 rfl ?_
  refine G_getR hclX9 (by decide) rfl 2 (by decide) rfl wd_309 dX9_count_78 ?_
  refine G_getIN hclX5 (by decide) rfl 2 (by decide) rfl wn_185 dX9_count_81 ?_
  exact G_ireturn rfl rfl dX9_count_84 rfl
  refine G_ite (fun hc5 => ?_) (fun hc5 => ?_)
  refine G_tswIn 5 85 dX9_count_1 hc5 (by decide) (by decide) rfl (by decide) ?_
  refine G_aload_n dX9_count_85 0 rfl ?_
  refine G_getR hclX9 (by decide) rfl 3 (by decide) rfl wd_310 dX9_count_86 ?_
  refine G_getIN hclX2 (by decide) rfl 3 (by decide) rfl wn_210 dX9_count_89 ?_
  exact G_ireturn rfl rfl dX9_count_92 rfl
  refine G_tswOut 93 dX9_count_1 (by have e0 := lv_neT hc0 (k := 0) (a := 0) rfl; have e1 := lv_neT hc1 (k := 1) (a := 1) rfl; have e2 := lv_neT hc2 (k := 2) (a := 2) rfl; have e3 := lv_neT hc3 (k := 3) (a := 3) rfl; have e4 := lv_neT hc4 (k := 4) (a := 4) rfl; have e5 := lv_neT hc5 (k := 5) (a := 5) rfl; omega) (by decide) ?_
  refine G_iload_n dX9_count_93 1 rfl ?_
  refine G_bipush (v := 11) dX9_count_94 rfl ?_
  refine G_icmp_lt 119 dX9_count_96 (by decide) (fun _ => ?_) (fun _ => ?_)
  refine G_bipush (v := -9) dX9_count_119 rfl ?_
  exact G_ireturn rfl rfl dX9_count_121 rfl
  refine G_iload_n dX9_count_99 1 rfl ?_
  refine G_bipush (v := 16) dX9_count_100 rfl ?_
  refine G_icmp_gt 119 dX9_count_102 (by decide) (fun _ => ?_) (fun _ => ?_)
  refine G_bipush (v := -9) dX9_count_119 rfl ?_
  exact G_ireturn rfl rfl dX9_count_121 rfl
  refine G_aload_n dX9_count_105 0 rfl ?_
  refine G_getR hclX9 (by decide) rfl 11 (by decide) rfl wd_318 dX9_count_106 ?_
  refine G_iload_n dX9_count_109 1 rfl ?_
  refine G_bipush (v := 10) dX9_count_110 rfl ?_
  refine G_isub dX9_count_112 ?_
  refine G_callS_I (m_SP_at 32 isA_32 _ M) cal_SP_at ⟨Nat.le_of_ble_eq_true rfl, Nat.le_of_ble_eq_true rfl⟩ wd_355 rfl rfl (Nat.le_of_ble_eq_true rfl) dX9_count_113 (fun r_2 => ?_)
  refine G_goto 121 dX9_count_116 (by decide) ?_
  exact G_ireturn rfl rfl dX9_count_121 rfl

set_option maxRecDepth 100000 in
set_option maxHeartbeats 4000000 in
theorem m_MD_no (v1 : Int32) (M : Mem) : MC mi_MD_no (φIM) (fun ad => [.ref (ad 33), .int v1]) M (MD_no v1 M) := by
  refine MC_of rfl (by decide +kernel) (fun ad => [(0, .ref (ad 33)), (1, .int v1)]) (fun _ => rfl) (fun _ => Nat.le_of_ble_eq_true rfl) (fun X ad => ?_)
  show G X ad mi_MD_no (φIM) 0 [(0, .ref (ad 33)), (1, .int v1)] [] M _
  unfold MD_no
  refine G_aload_n dX10_no_0 0 rfl ?_
  refine G_getR hclX10 (by decide) rfl 0 (by decide) rfl wd_896 dX10_no_1 ?_
  refine G_iload_n dX10_no_4 1 rfl ?_
  refine G_ineg dX10_no_5 ?_
  refine G_dup2 dX10_no_6 rfl rfl ?_
  refine G_iald (by decide) rfl dX10_no_7 ?_
  refine G_iconst (v := 1) dX10_no_8 rfl ?_
  refine G_iadd dX10_no_9 ?_
  refine G_iast (by decide) rfl dX10_no_10 (fun M1 => ?_)
  refine G_iload_n dX10_no_11 1 rfl ?_
  exact G_ireturn rfl rfl dX10_no_12 rfl

set_option maxRecDepth 100000 in
set_option maxHeartbeats 4000000 in
theorem m_MD_less (v1 : Int32) (M : Mem) : MC mi_MD_less (φIM) (fun ad => [.ref (ad 33), .int v1]) M (MD_less v1 M) := by
  refine MC_of rfl (by decide +kernel) (fun ad => [(0, .ref (ad 33)), (1, .int v1)]) (fun _ => rfl) (fun _ => Nat.le_of_ble_eq_true rfl) (fun X ad => ?_)
  show G X ad mi_MD_less (φIM) 0 [(0, .ref (ad 33)), (1, .int v1)] [] M _
  unfold MD_less
  refine G_aload_n dX10_less_0 0 rfl ?_
  refine G_getR hclX10 (by decide) rfl 0 (by decide) rfl wd_896 dX10_less_1 ?_
  refine G_iload_n dX10_less_4 1 rfl ?_
  refine G_ineg dX10_less_5 ?_
  refine G_dup2 dX10_less_6 rfl rfl ?_
  refine G_iald (by decide) rfl dX10_less_7 ?_
  refine G_iconst (v := 1) dX10_less_8 rfl ?_
  refine G_iadd dX10_less_9 ?_
  refine G_iast (by decide) rfl dX10_less_10 (fun M1 => ?_)
  refine G_ldc wd_1229 dX10_less_11 ?_
  refine G_iload_n dX10_less_13 1 rfl ?_
  refine G_isub dX10_less_14 ?_
  exact G_ireturn rfl rfl dX10_less_15 rfl

set_option maxRecDepth 100000 in
set_option maxHeartbeats 4000000 in
theorem m_MD_isIn (v0 : Int64) (v2 : Int64) (v4 : Int64) (M : Mem) : MC mi_MD_isIn (φI M) (fun ad => [.long v0, .long v2, .long v4]) M (MD_isIn v0 v2 v4) := by
  refine MC_of rfl (by decide +kernel) (fun ad => [(0, .long v0), (2, .long v2), (4, .long v4)]) (fun _ => rfl) (fun _ => Nat.le_of_ble_eq_true rfl) (fun X ad => ?_)
  show G X ad mi_MD_isIn (φI M) 0 [(0, .long v0), (2, .long v2), (4, .long v4)] [] M _
  unfold MD_isIn
  refine G_lload_n dX10_isIn_0 0 rfl ?_
  refine G_lload_n dX10_isIn_1 1 rfl ?_
  refine G_lcmp dX10_isIn_2 ?_
  refine G_if_lt 17 dX10_isIn_3 (by decide) (fun _ => ?_) (fun _ => ?_)
  refine G_iconst (v := 0) dX10_isIn_17 rfl ?_
  exact G_zreturn rfl rfl dX10_isIn_18 rfl
  refine G_lload_n dX10_isIn_6 0 rfl ?_
  refine G_lload dX10_isIn_7 2 rfl ?_
  refine G_lcmp dX10_isIn_9 ?_
  refine G_if_gt 17 dX10_isIn_10 (by decide) (fun _ => ?_) (fun _ => ?_)
  refine G_iconst (v := 0) dX10_isIn_17 rfl ?_
  exact G_zreturn rfl rfl dX10_isIn_18 rfl
  refine G_iconst (v := 1) dX10_isIn_13 rfl ?_
  refine G_goto 18 dX10_isIn_14 (by decide) ?_
  exact G_zreturn rfl rfl dX10_isIn_18 rfl

set_option maxRecDepth 100000 in
set_option maxHeartbeats 4000000 in
theorem m_MD_out (v0 : Int64) (v2 : Int64) (v4 : Int64) (M : Mem) : MC mi_MD_out (φI M) (fun ad => [.long v0, .long v2, .long v4]) M (MD_out v0 v2 v4) := by
  refine MC_of rfl (by decide +kernel) (fun ad => [(0, .long v0), (2, .long v2), (4, .long v4)]) (fun _ => rfl) (fun _ => Nat.le_of_ble_eq_true rfl) (fun X ad => ?_)
  show G X ad mi_MD_out (φI M) 0 [(0, .long v0), (2, .long v2), (4, .long v4)] [] M _
  unfold MD_out
  refine G_lload_n dX10_out_0 0 rfl ?_
  refine G_lload_n dX10_out_1 1 rfl ?_
  refine G_lcmp dX10_out_2 ?_
  refine G_if_ge 11 dX10_out_3 (by decide) (fun _ => ?_) (fun _ => ?_)
  refine G_lload_n dX10_out_11 0 rfl ?_
  refine G_lload dX10_out_12 2 rfl ?_
  refine G_lcmp dX10_out_14 ?_
  refine G_if_le 23 dX10_out_15 (by decide) (fun _ => ?_) (fun _ => ?_)
  refine G_iconst (v := 0) dX10_out_23 rfl ?_
  exact G_ireturn rfl rfl dX10_out_24 rfl
  refine G_bipush (v := -6) dX10_out_18 rfl ?_
  refine G_goto 24 dX10_out_20 (by decide) ?_
  exact G_ireturn rfl rfl dX10_out_24 rfl
  refine G_bipush (v := -4) dX10_out_6 rfl ?_
  refine G_goto 24 dX10_out_8 (by decide) ?_
  exact G_ireturn rfl rfl dX10_out_24 rfl

set_option maxRecDepth 100000 in
set_option maxHeartbeats 4000000 in
theorem m_MD_isPerson (v1 : Int32) (M : Mem) : MC mi_MD_isPerson (φI M) (fun ad => [.ref (ad 33), .int v1]) M (MD_isPerson v1 M) := by
  refine MC_of rfl (by decide +kernel) (fun ad => [(0, .ref (ad 33)), (1, .int v1)]) (fun _ => rfl) (fun _ => Nat.le_of_ble_eq_true rfl) (fun X ad => ?_)
  show G X ad mi_MD_isPerson (φI M) 0 [(0, .ref (ad 33)), (1, .int v1)] [] M _
  unfold MD_isPerson
  refine G_iload_n dX10_isPerson_0 1 rfl ?_
  refine G_if_lt 16 dX10_isPerson_1 (by decide) (fun _ => ?_) (fun _ => ?_)
  refine G_iconst (v := 0) dX10_isPerson_16 rfl ?_
  exact G_zreturn rfl rfl dX10_isPerson_17 rfl
  refine G_iload_n dX10_isPerson_4 1 rfl ?_
  refine G_aload_n dX10_isPerson_5 0 rfl ?_
  refine G_getI hclX10 (by decide) rfl 8 (by decide) rfl wd_904 dX10_isPerson_6 ?_
  refine G_icmp_ge 16 dX10_isPerson_9 (by decide) (fun _ => ?_) (fun _ => ?_)
  refine G_iconst (v := 0) dX10_isPerson_16 rfl ?_
  exact G_zreturn rfl rfl dX10_isPerson_17 rfl
  refine G_iconst (v := 1) dX10_isPerson_12 rfl ?_
  refine G_goto 17 dX10_isPerson_13 (by decide) ?_
  exact G_zreturn rfl rfl dX10_isPerson_17 rfl

set_option maxRecDepth 100000 in
set_option maxHeartbeats 4000000 in
theorem m_MD_isKind (v0 : Int32) (M : Mem) : MC mi_MD_isKind (φI M) (fun ad => [.int v0]) M (MD_isKind v0) := by
  refine MC_of rfl (by decide +kernel) (fun ad => [(0, .int v0)]) (fun _ => rfl) (fun _ => Nat.le_of_ble_eq_true rfl) (fun X ad => ?_)
  show G X ad mi_MD_isKind (φI M) 0 [(0, .int v0)] [] M _
  unfold MD_isKind
  refine G_iload_n dX10_isKind_0 0 rfl ?_
  refine G_if_lt 13 dX10_isKind_1 (by decide) (fun _ => ?_) (fun _ => ?_)
  refine G_iconst (v := 0) dX10_isKind_13 rfl ?_
  exact G_zreturn rfl rfl dX10_isKind_14 rfl
  refine G_iload_n dX10_isKind_4 0 rfl ?_
  refine G_iconst (v := 3) dX10_isKind_5 rfl ?_
  refine G_icmp_ge 13 dX10_isKind_6 (by decide) (fun _ => ?_) (fun _ => ?_)
  refine G_iconst (v := 0) dX10_isKind_13 rfl ?_
  exact G_zreturn rfl rfl dX10_isKind_14 rfl
  refine G_iconst (v := 1) dX10_isKind_9 rfl ?_
  refine G_goto 14 dX10_isKind_10 (by decide) ?_
  exact G_zreturn rfl rfl dX10_isKind_14 rfl

set_option maxRecDepth 100000 in
set_option maxHeartbeats 4000000 in
theorem m_MD_isSameness (v0 : Int32) (M : Mem) : MC mi_MD_isSameness (φI M) (fun ad => [.int v0]) M (MD_isSameness v0) := by
  refine MC_of rfl (by decide +kernel) (fun ad => [(0, .int v0)]) (fun _ => rfl) (fun _ => Nat.le_of_ble_eq_true rfl) (fun X ad => ?_)
  show G X ad mi_MD_isSameness (φI M) 0 [(0, .int v0)] [] M _
  unfold MD_isSameness
  refine G_iload_n dX10_isSameness_0 0 rfl ?_
  refine G_if_lt 13 dX10_isSameness_1 (by decide) (fun _ => ?_) (fun _ => ?_)
  refine G_iconst (v := 0) dX10_isSameness_13 rfl ?_
  exact G_zreturn rfl rfl dX10_isSameness_14 rfl
  refine G_iload_n dX10_isSameness_4 0 rfl ?_
  refine G_iconst (v := 5) dX10_isSameness_5 rfl ?_
  refine G_icmp_ge 13 dX10_isSameness_6 (by decide) (fun _ => ?_) (fun _ => ?_)
  refine G_iconst (v := 0) dX10_isSameness_13 rfl ?_
  exact G_zreturn rfl rfl dX10_isSameness_14 rfl
  refine G_iconst (v := 1) dX10_isSameness_9 rfl ?_
  refine G_goto 14 dX10_isSameness_10 (by decide) ?_
  exact G_zreturn rfl rfl dX10_isSameness_14 rfl

set_option maxRecDepth 100000 in
set_option maxHeartbeats 4000000 in
theorem w_MD_persons_L43 (X : Cx) (ad : Nat → Nat) (v3_2 : Int32) (kx : Mem → Option (Int32 × Mem)) (hkx : ∀ (Me : Mem), G X ad mi_MD_persons (φIM) 64 [(3, .int v3_2)] [] Me (kx Me)) : ∀ (n : Nat) (s : Int32 × Mem), G X ad mi_MD_persons (φIM) 43 [(0, .ref (ad 33)), (3, .int v3_2), (4, .int s.1)] [] s.2 (LOOP (fun aq sq => MD_persons_L43 kx aq sq.1 sq.2) n s) := by
  refine LOOP_rule (fun (s : Int32 × Mem) o => G X ad mi_MD_persons (φIM) 43 [(0, .ref (ad 33)), (3, .int v3_2), (4, .int s.1)] [] s.2 o) (fun _ => G_none) (fun ag hag s => ?_)
  obtain ⟨v4_1, M4⟩ := s
  show G X ad mi_MD_persons (φIM) 43 [(0, .ref (ad 33)), (3, .int v3_2), (4, .int v4_1)] [] M4 (MD_persons_L43 kx ag v4_1 M4)
  unfold MD_persons_L43
  refine G_iload dX10_persons_43 2 rfl ?_
  refine G_bipush (v := 7) dX10_persons_45 rfl ?_
  refine G_icmp_ge 64 dX10_persons_47 (by decide) (fun _ => ?_) (fun _ => ?_)
  refine G_sub [1] rfl ?_
  exact hkx M4
  refine G_aload_n dX10_persons_50 0 rfl ?_
  refine G_getR hclX10 (by decide) rfl 1 (by decide) rfl wd_897 dX10_persons_51 ?_
  refine G_iload dX10_persons_54 2 rfl ?_
  refine G_iconst (v := 0) dX10_persons_56 rfl ?_
  refine G_iast (by decide) rfl dX10_persons_57 (fun M5 => ?_)
  refine G_iinc (v4_1 + 1) dX10_persons_58 2 rfl rfl (by decide) (L' := [(4, .int (v4_1 + 1)), (0, .ref (ad 33)), (3, .int v3_2)]) rfl ?_
  refine G_goto 43 dX10_persons_61 (by decide) ?_
  refine G_sub [1, 2, 0] rfl ?_
  exact hag (v4_1 + 1, M5)

set_option maxRecDepth 100000 in
set_option maxHeartbeats 4000000 in
theorem m_MD_persons (v1 : Int32) (M : Mem) : MC mi_MD_persons (φIM) (fun ad => [.ref (ad 33), .int v1]) M (MD_persons v1 M) := by
  refine MC_of rfl (by decide +kernel) (fun ad => [(0, .ref (ad 33)), (1, .int v1)]) (fun _ => rfl) (fun _ => Nat.le_of_ble_eq_true rfl) (fun X ad => ?_)
  show G X ad mi_MD_persons (φIM) 0 [(0, .ref (ad 33)), (1, .int v1)] [] M _
  unfold MD_persons
  refine G_iload_n dX10_persons_0 1 rfl ?_
  refine G_i2l dX10_persons_1 ?_
  refine G_lconst (v := 1) dX10_persons_2 rfl ?_
  refine G_ldc2 wd_1004 dX10_persons_3 ?_
  refine G_callS_I (m_MD_out _ _ _ M) cal_MD_out ⟨Nat.le_of_ble_eq_true rfl, Nat.le_of_ble_eq_true rfl⟩ wd_1005 rfl rfl (Nat.le_of_ble_eq_true rfl) dX10_persons_6 (fun r_1 => ?_)
  refine G_istore_n 2 rfl dX10_persons_9 (by decide) (L' := [(2, .int r_1), (0, .ref (ad 33)), (1, .int v1)]) rfl ?_
  refine G_iload_n dX10_persons_10 0 rfl ?_
  refine G_if_eq 20 dX10_persons_11 (by decide) (fun _ => ?_) (fun _ => ?_)
  refine G_aload_n dX10_persons_20 1 rfl ?_
  refine G_getI hclX10 (by decide) rfl 8 (by decide) rfl wd_904 dX10_persons_21 ?_
  refine G_nmI (fun v3_1 => ?_)
  refine G_istore_n 3 rfl dX10_persons_24 (by decide) (L' := [(3, .int v3_1), (2, .int r_1), (0, .ref (ad 33)), (1, .int v1)]) rfl ?_
  refine G_aload_n dX10_persons_25 2 rfl ?_
  refine G_iload_n dX10_persons_26 3 rfl ?_
  refine G_put hclX10 (by decide) rfl 8 (by decide) rfl rfl (by decide +kernel) wd_904 dX10_persons_27 (fun M1 => ?_)
  refine G_aload_n dX10_persons_30 2 rfl ?_
  refine G_iconst (v := 0) dX10_persons_31 rfl ?_
  refine G_put hclX10 (by decide) rfl 9 (by decide) rfl rfl (by decide +kernel) wd_905 dX10_persons_32 (fun M2 => ?_)
  refine G_aload_n dX10_persons_35 2 rfl ?_
  refine G_iconst (v := 0) dX10_persons_36 rfl ?_
  refine G_put hclX10 (by decide) rfl 33 (by decide) rfl rfl (by decide +kernel) wd_929 dX10_persons_37 (fun M3 => ?_)
  refine G_iconst (v := 0) dX10_persons_40 rfl ?_
  refine G_istore dX10_persons_41 (by decide) (L' := [(4, .int 0), (3, .int v3_1), (2, .int r_1), (0, .ref (ad 33)), (1, .int v1)]) rfl ?_
  refine G_sub [3, 1, 0] rfl ?_
  refine w_MD_persons_L43 X ad v3_1 _ (fun M6 => ?_) _ _
  refine G_iload_n dX10_persons_64 0 rfl ?_
  exact G_ireturn rfl rfl dX10_persons_65 rfl
  refine G_aload_n dX10_persons_14 1 rfl ?_
  refine G_iload_n dX10_persons_15 0 rfl ?_
  refine G_callV_IM (m_MD_no _ M) cal_MD_no ⟨Nat.le_of_ble_eq_true rfl, Nat.le_of_ble_eq_true rfl⟩ wd_1008 hclX10 (by decide) rfl [.int r_1] rfl rfl rfl (Nat.le_of_ble_eq_true rfl) dX10_persons_16 (fun r_2 M7 => ?_)
  exact G_ireturn rfl rfl dX10_persons_19 rfl

set_option maxRecDepth 100000 in
set_option maxHeartbeats 4000000 in
theorem m_MD_mark (v1 : Int32) (v2 : Int32) (M : Mem) : MC mi_MD_mark (φIM) (fun ad => [.ref (ad 33), .int v1, .int v2]) M (MD_mark v1 v2 M) := by
  refine MC_of rfl (by decide +kernel) (fun ad => [(0, .ref (ad 33)), (1, .int v1), (2, .int v2)]) (fun _ => rfl) (fun _ => Nat.le_of_ble_eq_true rfl) (fun X ad => ?_)
  show G X ad mi_MD_mark (φIM) 0 [(0, .ref (ad 33)), (1, .int v1), (2, .int v2)] [] M _
  unfold MD_mark
  refine G_aload_n dX10_mark_0 0 rfl ?_
  refine G_iload_n dX10_mark_1 1 rfl ?_
  refine G_callV_I (m_MD_isPerson _ M) cal_MD_isPerson ⟨Nat.le_of_ble_eq_true rfl, Nat.le_of_ble_eq_true rfl⟩ wd_1016 hclX10 (by decide) rfl [.int v1] rfl rfl rfl (Nat.le_of_ble_eq_true rfl) dX10_mark_2 (fun r_1 => ?_)
  refine G_if_ne 14 dX10_mark_5 (by decide) (fun _ => ?_) (fun _ => ?_)
  refine G_aload_n dX10_mark_8 0 rfl ?_
  refine G_iconst (v := -1) dX10_mark_9 rfl ?_
  refine G_callV_IM (m_MD_no _ M) cal_MD_no ⟨Nat.le_of_ble_eq_true rfl, Nat.le_of_ble_eq_true rfl⟩ wd_1008 hclX10 (by decide) rfl [.int (-1)] rfl rfl rfl (Nat.le_of_ble_eq_true rfl) dX10_mark_10 (fun r_2 M1 => ?_)
  exact G_ireturn rfl rfl dX10_mark_13 rfl
  refine G_iload_n dX10_mark_14 2 rfl ?_
  refine G_i2l dX10_mark_15 ?_
  refine G_lconst (v := 0) dX10_mark_16 rfl ?_
  refine G_ldc2 wd_1020 dX10_mark_17 ?_
  refine G_callS_I (m_MD_out _ _ _ M) cal_MD_out ⟨Nat.le_of_ble_eq_true rfl, Nat.le_of_ble_eq_true rfl⟩ wd_1005 rfl rfl (Nat.le_of_ble_eq_true rfl) dX10_mark_20 (fun r_3 => ?_)
  refine G_istore_n 3 rfl dX10_mark_23 (by decide) (L' := [(3, .int r_3), (0, .ref (ad 33)), (1, .int v1), (2, .int v2)]) rfl ?_
  refine G_iload_n dX10_mark_24 0 rfl ?_
  refine G_if_eq 34 dX10_mark_25 (by decide) (fun _ => ?_) (fun _ => ?_)
  refine G_aload_n dX10_mark_34 1 rfl ?_
  refine G_getR hclX10 (by decide) rfl 1 (by decide) rfl wd_897 dX10_mark_35 ?_
  refine G_iload_n dX10_mark_38 2 rfl ?_
  refine G_iald (by decide) rfl dX10_mark_39 ?_
  refine G_nmI (fun v4_1 => ?_)
  refine G_istore dX10_mark_40 (by decide) (L' := [(4, .int v4_1), (3, .int r_3), (0, .ref (ad 33)), (1, .int v1), (2, .int v2)]) rfl ?_
  refine G_aload_n dX10_mark_42 2 rfl ?_
  refine G_getR hclX10 (by decide) rfl 1 (by decide) rfl wd_897 dX10_mark_43 ?_
  refine G_iload_n dX10_mark_46 3 rfl ?_
  refine G_iload_n dX10_mark_47 4 rfl ?_
  refine G_iast (by decide) rfl dX10_mark_48 (fun M2 => ?_)
  refine G_iload dX10_mark_49 0 rfl ?_
  exact G_ireturn rfl rfl dX10_mark_51 rfl
  refine G_aload_n dX10_mark_28 1 rfl ?_
  refine G_iload_n dX10_mark_29 0 rfl ?_
  refine G_callV_IM (m_MD_no _ M) cal_MD_no ⟨Nat.le_of_ble_eq_true rfl, Nat.le_of_ble_eq_true rfl⟩ wd_1008 hclX10 (by decide) rfl [.int r_3] rfl rfl rfl (Nat.le_of_ble_eq_true rfl) dX10_mark_30 (fun r_4 M3 => ?_)
  exact G_ireturn rfl rfl dX10_mark_33 rfl

set_option maxRecDepth 100000 in
set_option maxHeartbeats 4000000 in
theorem m_MD_year (v1 : Int32) (M : Mem) : MC mi_MD_year (φIM) (fun ad => [.ref (ad 33), .int v1]) M (MD_year v1 M) := by
  refine MC_of rfl (by decide +kernel) (fun ad => [(0, .ref (ad 33)), (1, .int v1)]) (fun _ => rfl) (fun _ => Nat.le_of_ble_eq_true rfl) (fun X ad => ?_)
  show G X ad mi_MD_year (φIM) 0 [(0, .ref (ad 33)), (1, .int v1)] [] M _
  unfold MD_year
  refine G_iload_n dX10_year_0 1 rfl ?_
  refine G_i2l dX10_year_1 ?_
  refine G_lconst (v := 0) dX10_year_2 rfl ?_
  refine G_ldc2 wd_1025 dX10_year_3 ?_
  refine G_callS_I (m_MD_out _ _ _ M) cal_MD_out ⟨Nat.le_of_ble_eq_true rfl, Nat.le_of_ble_eq_true rfl⟩ wd_1005 rfl rfl (Nat.le_of_ble_eq_true rfl) dX10_year_6 (fun r_1 => ?_)
  refine G_istore_n 2 rfl dX10_year_9 (by decide) (L' := [(2, .int r_1), (0, .ref (ad 33)), (1, .int v1)]) rfl ?_
  refine G_iload_n dX10_year_10 0 rfl ?_
  refine G_if_eq 20 dX10_year_11 (by decide) (fun _ => ?_) (fun _ => ?_)
  refine G_aload_n dX10_year_20 1 rfl ?_
  refine G_getI hclX10 (by decide) rfl 10 (by decide) rfl wd_906 dX10_year_21 ?_
  refine G_nmI (fun v3_1 => ?_)
  refine G_istore_n 3 rfl dX10_year_24 (by decide) (L' := [(3, .int v3_1), (2, .int r_1), (0, .ref (ad 33)), (1, .int v1)]) rfl ?_
  refine G_aload_n dX10_year_25 2 rfl ?_
  refine G_iload_n dX10_year_26 3 rfl ?_
  refine G_put hclX10 (by decide) rfl 10 (by decide) rfl rfl (by decide +kernel) wd_906 dX10_year_27 (fun M1 => ?_)
  refine G_iload_n dX10_year_30 0 rfl ?_
  exact G_ireturn rfl rfl dX10_year_31 rfl
  refine G_aload_n dX10_year_14 1 rfl ?_
  refine G_iload_n dX10_year_15 0 rfl ?_
  refine G_callV_IM (m_MD_no _ M) cal_MD_no ⟨Nat.le_of_ble_eq_true rfl, Nat.le_of_ble_eq_true rfl⟩ wd_1008 hclX10 (by decide) rfl [.int r_1] rfl rfl rfl (Nat.le_of_ble_eq_true rfl) dX10_year_16 (fun r_2 M2 => ?_)
  exact G_ireturn rfl rfl dX10_year_19 rfl

set_option maxRecDepth 100000 in
set_option maxHeartbeats 4000000 in
theorem w_MD_feed_L46 (X : Cx) (ad : Nat → Nat) (v1_1 : Int32) (v2_1 : Int64) (kx : Mem → Option (Int32 × Mem)) (hkx : ∀ (Me : Mem), G X ad mi_MD_feed (φIM) 89 [(0, .ref (ad 33))] [] Me (kx Me)) : ∀ (n : Nat) (s : Int32 × Mem), G X ad mi_MD_feed (φIM) 46 [(0, .ref (ad 33)), (1, .int v1_1), (2, .long v2_1), (5, .int s.1)] [] s.2 (LOOP (fun aq sq => MD_feed_L46 v1_1 v2_1 kx aq sq.1 sq.2) n s) := by
  refine LOOP_rule (fun (s : Int32 × Mem) o => G X ad mi_MD_feed (φIM) 46 [(0, .ref (ad 33)), (1, .int v1_1), (2, .long v2_1), (5, .int s.1)] [] s.2 o) (fun _ => G_none) (fun ag hag s => ?_)
  obtain ⟨v5_1, M1⟩ := s
  show G X ad mi_MD_feed (φIM) 46 [(0, .ref (ad 33)), (1, .int v1_1), (2, .long v2_1), (5, .int v5_1)] [] M1 (MD_feed_L46 v1_1 v2_1 kx ag v5_1 M1)
  unfold MD_feed_L46
  refine G_iload dX10_feed_46 3 rfl ?_
  refine G_iload_n dX10_feed_48 1 rfl ?_
  refine G_icmp_ge 89 dX10_feed_49 (by decide) (fun _ => ?_) (fun _ => ?_)
  refine G_sub [0] rfl ?_
  exact hkx M1
  refine G_aload_n dX10_feed_52 0 rfl ?_
  refine G_getR hclX10 (by decide) rfl 11 (by decide) rfl wd_907 dX10_feed_53 ?_
  refine G_aload_n dX10_feed_56 0 rfl ?_
  refine G_getI hclX10 (by decide) rfl 12 (by decide) rfl wd_908 dX10_feed_57 ?_
  refine G_lload_n dX10_feed_60 2 rfl ?_
  refine G_bipush (v := 8) dX10_feed_61 rfl ?_
  refine G_iload dX10_feed_63 3 rfl ?_
  refine G_imul dX10_feed_65 ?_
  refine G_lshr dX10_feed_66 ?_
  refine G_ldc2 wd_1031 dX10_feed_67 ?_
  refine G_land dX10_feed_70 ?_
  refine G_l2i dX10_feed_71 ?_
  refine G_iast (by decide) rfl dX10_feed_72 (fun M2 => ?_)
  refine G_aload_n dX10_feed_73 0 rfl ?_
  refine G_dup dX10_feed_74 rfl ?_
  refine G_getI hclX10 (by decide) rfl 12 (by decide) rfl wd_908 dX10_feed_75 ?_
  refine G_iconst (v := 1) dX10_feed_78 rfl ?_
  refine G_iadd dX10_feed_79 ?_
  refine G_put hclX10 (by decide) rfl 12 (by decide) rfl rfl (by decide +kernel) wd_908 dX10_feed_80 (fun M3 => ?_)
  refine G_iinc (v5_1 + 1) dX10_feed_83 3 rfl rfl (by decide) (L' := [(5, .int (v5_1 + 1)), (0, .ref (ad 33)), (1, .int v1_1), (2, .long v2_1)]) rfl ?_
  refine G_goto 46 dX10_feed_86 (by decide) ?_
  refine G_sub [1, 2, 3, 0] rfl ?_
  exact hag (v5_1 + 1, M3)

set_option maxRecDepth 100000 in
set_option maxHeartbeats 4000000 in
theorem m_MD_feed (v1 : Int32) (v2 : Int64) (M : Mem) : MC mi_MD_feed (φIM) (fun ad => [.ref (ad 33), .int v1, .long v2]) M (MD_feed v1 v2 M) := by
  refine MC_of rfl (by decide +kernel) (fun ad => [(0, .ref (ad 33)), (1, .int v1), (2, .long v2)]) (fun _ => rfl) (fun _ => Nat.le_of_ble_eq_true rfl) (fun X ad => ?_)
  show G X ad mi_MD_feed (φIM) 0 [(0, .ref (ad 33)), (1, .int v1), (2, .long v2)] [] M _
  unfold MD_feed
  refine G_iload_n dX10_feed_0 1 rfl ?_
  refine G_i2l dX10_feed_1 ?_
  refine G_lconst (v := 1) dX10_feed_2 rfl ?_
  refine G_ldc2 wd_1030 dX10_feed_3 ?_
  refine G_callS_I (m_MD_out _ _ _ M) cal_MD_out ⟨Nat.le_of_ble_eq_true rfl, Nat.le_of_ble_eq_true rfl⟩ wd_1005 rfl rfl (Nat.le_of_ble_eq_true rfl) dX10_feed_6 (fun r_1 => ?_)
  refine G_istore dX10_feed_9 (by decide) (L' := [(4, .int r_1), (0, .ref (ad 33)), (1, .int v1), (2, .long v2)]) rfl ?_
  refine G_iload dX10_feed_11 0 rfl ?_
  refine G_jp (fun kq => ∀ (v4_1 : Int32), G X ad mi_MD_feed (φIM) 31 [(0, .ref (ad 33)), (1, .int v1), (2, .long v2), (4, .int v4_1)] [] M (kq v4_1)) (fun v4_1 => ?_) (fun k_1 hk_1 => ?_)
  refine G_iload dX10_feed_31 3 rfl ?_
  refine G_if_eq 43 dX10_feed_33 (by decide) (fun _ => ?_) (fun _ => ?_)
  refine G_iconst (v := 0) dX10_feed_43 rfl ?_
  refine G_istore dX10_feed_44 (by decide) (L' := [(5, .int 0), (0, .ref (ad 33)), (1, .int v1), (2, .long v2), (4, .int v4_1)]) rfl ?_
  refine G_sub [1, 2, 3, 0] rfl ?_
  refine w_MD_feed_L46 X ad v1 v2 _ (fun M4 => ?_) _ _
  refine G_aload_n dX10_feed_89 0 rfl ?_
  refine G_getI hclX10 (by decide) rfl 12 (by decide) rfl wd_908 dX10_feed_90 ?_
  exact G_ireturn rfl rfl dX10_feed_93 rfl
  refine G_aload_n dX10_feed_36 0 rfl ?_
  refine G_iload dX10_feed_37 3 rfl ?_
  refine G_callV_IM (m_MD_no _ M) cal_MD_no ⟨Nat.le_of_ble_eq_true rfl, Nat.le_of_ble_eq_true rfl⟩ wd_1008 hclX10 (by decide) rfl [.int v4_1] rfl rfl rfl (Nat.le_of_ble_eq_true rfl) dX10_feed_39 (fun r_2 M5 => ?_)
  exact G_ireturn rfl rfl dX10_feed_42 rfl
  refine G_if_ne 31 dX10_feed_13 (by decide) (fun _ => ?_) (fun _ => ?_)
  refine G_aload_n dX10_feed_16 1 rfl ?_
  refine G_getI hclX10 (by decide) rfl 12 (by decide) rfl wd_908 dX10_feed_17 ?_
  refine G_iload_n dX10_feed_20 2 rfl ?_
  refine G_iadd dX10_feed_21 ?_
  refine G_bipush (v := 60) dX10_feed_22 rfl ?_
  refine G_icmp_le 31 dX10_feed_24 (by decide) (fun _ => ?_) (fun _ => ?_)
  refine G_sub [1, 2, 3, 0] rfl ?_
  exact hk_1 r_1
  refine G_bipush (v := -6) dX10_feed_27 rfl ?_
  refine G_istore dX10_feed_29 (by decide) (L' := [(4, .int (-6)), (0, .ref (ad 33)), (1, .int v1), (2, .long v2)]) rfl ?_
  refine G_sub [1, 2, 3, 0] rfl ?_
  exact hk_1 (-6)
  refine G_sub [1, 2, 3, 0] rfl ?_
  exact hk_1 r_1

set_option maxRecDepth 100000 in
set_option maxHeartbeats 4000000 in
theorem m_MD_sign (M : Mem) : MC mi_MD_sign (φI M) (fun ad => [.ref (ad 33)]) M (MD_sign M) := by
  refine MC_of rfl (by decide +kernel) (fun ad => [(0, .ref (ad 33))]) (fun _ => rfl) (fun _ => Nat.le_of_ble_eq_true rfl) (fun X ad => ?_)
  show G X ad mi_MD_sign (φI M) 0 [(0, .ref (ad 33))] [] M _
  unfold MD_sign
  refine G_aload_n dX10_sign_0 0 rfl ?_
  refine G_getI hclX10 (by decide) rfl 13 (by decide) rfl wd_909 dX10_sign_1 ?_
  refine G_aload_n dX10_sign_4 0 rfl ?_
  refine G_getI hclX10 (by decide) rfl 12 (by decide) rfl wd_908 dX10_sign_5 ?_
  refine G_icmp_ge 23 dX10_sign_8 (by decide) (fun _ => ?_) (fun _ => ?_)
  refine G_iconst (v := -1) dX10_sign_23 rfl ?_
  exact G_ireturn rfl rfl dX10_sign_24 rfl
  refine G_aload_n dX10_sign_11 0 rfl ?_
  refine G_getR hclX10 (by decide) rfl 11 (by decide) rfl wd_907 dX10_sign_12 ?_
  refine G_aload_n dX10_sign_15 0 rfl ?_
  refine G_getI hclX10 (by decide) rfl 13 (by decide) rfl wd_909 dX10_sign_16 ?_
  refine G_iald (by decide) rfl dX10_sign_19 ?_
  refine G_goto 24 dX10_sign_20 (by decide) ?_
  exact G_ireturn rfl rfl dX10_sign_24 rfl

set_option maxRecDepth 100000 in
set_option maxHeartbeats 4000000 in
theorem m_MD_takes (v1 : Int32) (M : Mem) : MC mi_MD_takes (φIM) (fun ad => [.ref (ad 33), .int v1]) M (MD_takes v1 M) := by
  refine MC_of rfl (by decide +kernel) (fun ad => [(0, .ref (ad 33)), (1, .int v1)]) (fun _ => rfl) (fun _ => Nat.le_of_ble_eq_true rfl) (fun X ad => ?_)
  show G X ad mi_MD_takes (φIM) 0 [(0, .ref (ad 33)), (1, .int v1)] [] M _
  unfold MD_takes
  refine G_aload_n dX10_takes_0 0 rfl ?_
  refine G_callV_I (m_MD_sign M) cal_MD_sign ⟨Nat.le_of_ble_eq_true rfl, Nat.le_of_ble_eq_true rfl⟩ wd_1048 hclX10 (by decide) rfl [] rfl rfl rfl (Nat.le_of_ble_eq_true rfl) dX10_takes_1 (fun r_1 => ?_)
  refine G_iload_n dX10_takes_4 1 rfl ?_
  refine G_icmp_eq 10 dX10_takes_5 (by decide) (fun _ => ?_) (fun _ => ?_)
  refine G_aload_n dX10_takes_10 0 rfl ?_
  refine G_dup dX10_takes_11 rfl ?_
  refine G_getI hclX10 (by decide) rfl 13 (by decide) rfl wd_909 dX10_takes_12 ?_
  refine G_iconst (v := 1) dX10_takes_15 rfl ?_
  refine G_iadd dX10_takes_16 ?_
  refine G_put hclX10 (by decide) rfl 13 (by decide) rfl rfl (by decide +kernel) wd_909 dX10_takes_17 (fun M1 => ?_)
  refine G_iconst (v := 1) dX10_takes_20 rfl ?_
  exact G_zreturn rfl rfl dX10_takes_21 rfl
  refine G_iconst (v := 0) dX10_takes_8 rfl ?_
  exact G_zreturn rfl rfl dX10_takes_9 rfl

set_option maxRecDepth 100000 in
set_option maxHeartbeats 4000000 in
theorem m_MD_takesIn (v1 : Int32) (v2 : Int32) (v3 : Int32) (M : Mem) : MC mi_MD_takesIn (φIM) (fun ad => [.ref (ad 33), .int v1, .int v2, .int v3]) M (MD_takesIn v1 v2 v3 M) := by
  refine MC_of rfl (by decide +kernel) (fun ad => [(0, .ref (ad 33)), (1, .int v1), (2, .int v2), (3, .int v3)]) (fun _ => rfl) (fun _ => Nat.le_of_ble_eq_true rfl) (fun X ad => ?_)
  show G X ad mi_MD_takesIn (φIM) 0 [(0, .ref (ad 33)), (1, .int v1), (2, .int v2), (3, .int v3)] [] M _
  unfold MD_takesIn
  refine G_aload_n dX10_takesIn_0 0 rfl ?_
  refine G_callV_I (m_MD_sign M) cal_MD_sign ⟨Nat.le_of_ble_eq_true rfl, Nat.le_of_ble_eq_true rfl⟩ wd_1048 hclX10 (by decide) rfl [] rfl rfl rfl (Nat.le_of_ble_eq_true rfl) dX10_takesIn_1 (fun r_1 => ?_)
  refine G_iload_n dX10_takesIn_4 1 rfl ?_
  refine G_isub dX10_takesIn_5 ?_
  refine G_nmI (fun v4_1 => ?_)
  refine G_istore dX10_takesIn_6 (by decide) (L' := [(4, .int v4_1), (0, .ref (ad 33)), (1, .int v1), (2, .int v2), (3, .int v3)]) rfl ?_
  refine G_iload dX10_takesIn_8 0 rfl ?_
  refine G_i2l dX10_takesIn_10 ?_
  refine G_iload_n dX10_takesIn_11 3 rfl ?_
  refine G_i2l dX10_takesIn_12 ?_
  refine G_iload_n dX10_takesIn_13 4 rfl ?_
  refine G_i2l dX10_takesIn_14 ?_
  refine G_callS_I (m_MD_isIn _ _ _ M) cal_MD_isIn ⟨Nat.le_of_ble_eq_true rfl, Nat.le_of_ble_eq_true rfl⟩ wd_1052 rfl rfl (Nat.le_of_ble_eq_true rfl) dX10_takesIn_15 (fun r_2 => ?_)
  refine G_if_ne 23 dX10_takesIn_18 (by decide) (fun _ => ?_) (fun _ => ?_)
  refine G_iconst (v := -1) dX10_takesIn_21 rfl ?_
  exact G_ireturn rfl rfl dX10_takesIn_22 rfl
  refine G_aload_n dX10_takesIn_23 1 rfl ?_
  refine G_dup dX10_takesIn_24 rfl ?_
  refine G_getI hclX10 (by decide) rfl 13 (by decide) rfl wd_909 dX10_takesIn_25 ?_
  refine G_iconst (v := 1) dX10_takesIn_28 rfl ?_
  refine G_iadd dX10_takesIn_29 ?_
  refine G_put hclX10 (by decide) rfl 13 (by decide) rfl rfl (by decide +kernel) wd_909 dX10_takesIn_30 (fun M1 => ?_)
  refine G_iload dX10_takesIn_33 0 rfl ?_
  exact G_ireturn rfl rfl dX10_takesIn_35 rfl

set_option maxRecDepth 100000 in
set_option maxHeartbeats 4000000 in
theorem w_MD_years_L24 (X : Cx) (ad : Nat → Nat) (v1_1 : Int32) (v2_2 : Int32) (kx : Int32 → Mem → Option (Int32 × Mem)) (hkx : ∀ (e3 : Int32) (Me : Mem), G X ad mi_MD_years (φIM) 68 [(0, .ref (ad 33)), (1, .int v1_1), (2, .int v2_2), (3, .int e3)] [] Me (kx e3 Me)) : ∀ (n : Nat) (s : Int32 × Int32 × Mem), G X ad mi_MD_years (φIM) 24 [(0, .ref (ad 33)), (1, .int v1_1), (2, .int v2_2), (3, .int s.1), (4, .int s.2.1)] [] s.2.2 (LOOP (fun aq sq => MD_years_L24 kx aq sq.1 sq.2.1 sq.2.2) n s) := by
  refine LOOP_rule (fun (s : Int32 × Int32 × Mem) o => G X ad mi_MD_years (φIM) 24 [(0, .ref (ad 33)), (1, .int v1_1), (2, .int v2_2), (3, .int s.1), (4, .int s.2.1)] [] s.2.2 o) (fun _ => G_none) (fun ag hag s => ?_)
  obtain ⟨v3_1, v4_1, M2⟩ := s
  show G X ad mi_MD_years (φIM) 24 [(0, .ref (ad 33)), (1, .int v1_1), (2, .int v2_2), (3, .int v3_1), (4, .int v4_1)] [] M2 (MD_years_L24 kx ag v3_1 v4_1 M2)
  unfold MD_years_L24
  refine G_iload dX10_years_24 4 rfl ?_
  refine G_iconst (v := 3) dX10_years_26 rfl ?_
  refine G_icmp_ge 68 dX10_years_27 (by decide) (fun _ => ?_) (fun _ => ?_)
  refine G_sub [0, 1, 2, 3] rfl ?_
  exact hkx v3_1 M2
  refine G_aload_n dX10_years_30 0 rfl ?_
  refine G_callV_I (m_MD_sign M2) cal_MD_sign ⟨Nat.le_of_ble_eq_true rfl, Nat.le_of_ble_eq_true rfl⟩ wd_1048 hclX10 (by decide) rfl [] rfl rfl rfl (Nat.le_of_ble_eq_true rfl) dX10_years_31 (fun r_2 => ?_)
  refine G_i2l dX10_years_34 ?_
  refine G_ldc2 wd_1063 dX10_years_35 ?_
  refine G_ldc2 wd_1064 dX10_years_38 ?_
  refine G_callS_I (m_MD_isIn _ _ _ M2) cal_MD_isIn ⟨Nat.le_of_ble_eq_true rfl, Nat.le_of_ble_eq_true rfl⟩ wd_1052 rfl rfl (Nat.le_of_ble_eq_true rfl) dX10_years_41 (fun r_3 => ?_)
  refine G_if_eq 68 dX10_years_44 (by decide) (fun _ => ?_) (fun _ => ?_)
  refine G_sub [0, 1, 2, 3] rfl ?_
  exact hkx v3_1 M2
  refine G_bipush (v := 10) dX10_years_47 rfl ?_
  refine G_iload_n dX10_years_49 3 rfl ?_
  refine G_imul dX10_years_50 ?_
  refine G_aload_n dX10_years_51 0 rfl ?_
  refine G_bipush (v := 48) dX10_years_52 rfl ?_
  refine G_iconst (v := 0) dX10_years_54 rfl ?_
  refine G_bipush (v := 9) dX10_years_55 rfl ?_
  refine G_callV_IM (m_MD_takesIn _ _ _ M2) cal_MD_takesIn ⟨Nat.le_of_ble_eq_true rfl, Nat.le_of_ble_eq_true rfl⟩ wd_1044 hclX10 (by decide) rfl [.int 48, .int 0, .int 9] rfl rfl rfl (Nat.le_of_ble_eq_true rfl) dX10_years_57 (fun r_4 M3 => ?_)
  refine G_iadd dX10_years_60 ?_
  refine G_nmI (fun v3_2 => ?_)
  refine G_istore_n 3 rfl dX10_years_61 (by decide) (L' := [(3, .int v3_2), (0, .ref (ad 33)), (1, .int v1_1), (2, .int v2_2), (4, .int v4_1)]) rfl ?_
  refine G_iinc (v4_1 + 1) dX10_years_62 4 rfl rfl (by decide) (L' := [(4, .int (v4_1 + 1)), (3, .int v3_2), (0, .ref (ad 33)), (1, .int v1_1), (2, .int v2_2)]) rfl ?_
  refine G_goto 24 dX10_years_65 (by decide) ?_
  refine G_sub [2, 3, 4, 1, 0] rfl ?_
  exact hag (v3_2, v4_1 + 1, M3)

set_option maxRecDepth 100000 in
set_option maxHeartbeats 4000000 in
theorem m_MD_years (v1 : Int32) (M : Mem) : MC mi_MD_years (φIM) (fun ad => [.ref (ad 33), .int v1]) M (MD_years v1 M) := by
  refine MC_of rfl (by decide +kernel) (fun ad => [(0, .ref (ad 33)), (1, .int v1)]) (fun _ => rfl) (fun _ => Nat.le_of_ble_eq_true rfl) (fun X ad => ?_)
  show G X ad mi_MD_years (φIM) 0 [(0, .ref (ad 33)), (1, .int v1)] [] M _
  unfold MD_years
  refine G_aload_n dX10_years_0 0 rfl ?_
  refine G_getI hclX10 (by decide) rfl 13 (by decide) rfl wd_909 dX10_years_1 ?_
  refine G_nmI (fun v2_1 => ?_)
  refine G_istore_n 2 rfl dX10_years_4 (by decide) (L' := [(2, .int v2_1), (0, .ref (ad 33)), (1, .int v1)]) rfl ?_
  refine G_aload_n dX10_years_5 1 rfl ?_
  refine G_bipush (v := 48) dX10_years_6 rfl ?_
  refine G_iconst (v := 0) dX10_years_8 rfl ?_
  refine G_bipush (v := 9) dX10_years_9 rfl ?_
  refine G_callV_IM (m_MD_takesIn _ _ _ M) cal_MD_takesIn ⟨Nat.le_of_ble_eq_true rfl, Nat.le_of_ble_eq_true rfl⟩ wd_1044 hclX10 (by decide) rfl [.int 48, .int 0, .int 9] rfl rfl rfl (Nat.le_of_ble_eq_true rfl) dX10_years_11 (fun r_1 M1 => ?_)
  refine G_istore_n 3 rfl dX10_years_14 (by decide) (L' := [(3, .int r_1), (2, .int v2_1), (0, .ref (ad 33)), (1, .int v1)]) rfl ?_
  refine G_iload_n dX10_years_15 0 rfl ?_
  refine G_if_ge 21 dX10_years_16 (by decide) (fun _ => ?_) (fun _ => ?_)
  refine G_iconst (v := 1) dX10_years_21 rfl ?_
  refine G_istore dX10_years_22 (by decide) (L' := [(4, .int 1), (3, .int r_1), (2, .int v2_1), (0, .ref (ad 33)), (1, .int v1)]) rfl ?_
  refine G_sub [3, 4, 2, 1, 0] rfl ?_
  refine w_MD_years_L24 X ad v1 v2_1 _ (fun v3_3 M4 => ?_) _ _
  refine G_iload_n dX10_years_68 3 rfl ?_
  refine G_bipush (v := 100) dX10_years_69 rfl ?_
  refine G_icmp_gt 81 dX10_years_71 (by decide) (fun _ => ?_) (fun _ => ?_)
  refine G_aload_n dX10_years_81 0 rfl ?_
  refine G_iload_n dX10_years_82 2 rfl ?_
  refine G_put hclX10 (by decide) rfl 13 (by decide) rfl rfl (by decide +kernel) wd_909 dX10_years_83 (fun M5 => ?_)
  refine G_iconst (v := -1) dX10_years_86 rfl ?_
  exact G_ireturn rfl rfl dX10_years_87 rfl
  refine G_iload_n dX10_years_74 3 rfl ?_
  refine G_iload_n dX10_years_75 1 rfl ?_
  refine G_icmp_le 81 dX10_years_76 (by decide) (fun _ => ?_) (fun _ => ?_)
  refine G_aload_n dX10_years_81 0 rfl ?_
  refine G_iload_n dX10_years_82 2 rfl ?_
  refine G_put hclX10 (by decide) rfl 13 (by decide) rfl rfl (by decide +kernel) wd_909 dX10_years_83 (fun M6 => ?_)
  refine G_iconst (v := -1) dX10_years_86 rfl ?_
  exact G_ireturn rfl rfl dX10_years_87 rfl
  refine G_iload_n dX10_years_79 3 rfl ?_
  exact G_ireturn rfl rfl dX10_years_80 rfl
  refine G_iconst (v := -1) dX10_years_19 rfl ?_
  exact G_ireturn rfl rfl dX10_years_20 rfl

set_option maxRecDepth 100000 in
set_option maxHeartbeats 4000000 in
theorem m_MD_oneTie (M : Mem) : MC mi_MD_oneTie (φIM) (fun ad => [.ref (ad 33)]) M (MD_oneTie M) := by
  refine MC_of rfl (by decide +kernel) (fun ad => [(0, .ref (ad 33))]) (fun _ => rfl) (fun _ => Nat.le_of_ble_eq_true rfl) (fun X ad => ?_)
  show G X ad mi_MD_oneTie (φIM) 0 [(0, .ref (ad 33))] [] M _
  unfold MD_oneTie
  refine G_aload_n dX10_oneTie_0 0 rfl ?_
  refine G_bipush (v := 97) dX10_oneTie_1 rfl ?_
  refine G_iconst (v := 0) dX10_oneTie_3 rfl ?_
  refine G_aload_n dX10_oneTie_4 0 rfl ?_
  refine G_getI hclX10 (by decide) rfl 8 (by decide) rfl wd_904 dX10_oneTie_5 ?_
  refine G_iconst (v := 1) dX10_oneTie_8 rfl ?_
  refine G_isub dX10_oneTie_9 ?_
  refine G_callV_IM (m_MD_takesIn _ _ _ M) cal_MD_takesIn ⟨Nat.le_of_ble_eq_true rfl, Nat.le_of_ble_eq_true rfl⟩ wd_1044 hclX10 (by decide) rfl [.int 97, .int 0, .int ((M 33 8) - 1)] rfl rfl rfl (Nat.le_of_ble_eq_true rfl) dX10_oneTie_10 (fun r_1 M1 => ?_)
  refine G_istore_n 1 rfl dX10_oneTie_13 (by decide) (L' := [(1, .int r_1), (0, .ref (ad 33))]) rfl ?_
  refine G_iload_n dX10_oneTie_14 0 rfl ?_
  refine G_if_lt 27 dX10_oneTie_15 (by decide) (fun _ => ?_) (fun _ => ?_)
  refine G_iconst (v := 0) dX10_oneTie_27 rfl ?_
  exact G_zreturn rfl rfl dX10_oneTie_28 rfl
  refine G_aload_n dX10_oneTie_18 1 rfl ?_
  refine G_bipush (v := 62) dX10_oneTie_19 rfl ?_
  refine G_callV_IM (m_MD_takes _ M1) cal_MD_takes ⟨Nat.le_of_ble_eq_true rfl, Nat.le_of_ble_eq_true rfl⟩ wd_1055 hclX10 (by decide) rfl [.int 62] rfl rfl rfl (Nat.le_of_ble_eq_true rfl) dX10_oneTie_21 (fun r_2 M2 => ?_)
  refine G_if_ne 29 dX10_oneTie_24 (by decide) (fun _ => ?_) (fun _ => ?_)
  refine G_iconst (v := 0) dX10_oneTie_27 rfl ?_
  exact G_zreturn rfl rfl dX10_oneTie_28 rfl
  refine G_aload_n dX10_oneTie_29 1 rfl ?_
  refine G_callV_I (m_MD_sign M2) cal_MD_sign ⟨Nat.le_of_ble_eq_true rfl, Nat.le_of_ble_eq_true rfl⟩ wd_1048 hclX10 (by decide) rfl [] rfl rfl rfl (Nat.le_of_ble_eq_true rfl) dX10_oneTie_30 (fun r_3 => ?_)
  refine G_bipush (v := 97) dX10_oneTie_33 rfl ?_
  refine G_iload_n dX10_oneTie_35 0 rfl ?_
  refine G_iadd dX10_oneTie_36 ?_
  refine G_icmp_ne 42 dX10_oneTie_37 (by decide) (fun _ => ?_) (fun _ => ?_)
  refine G_iconst (v := 0) dX10_oneTie_40 rfl ?_
  exact G_zreturn rfl rfl dX10_oneTie_41 rfl
  refine G_aload_n dX10_oneTie_42 1 rfl ?_
  refine G_bipush (v := 97) dX10_oneTie_43 rfl ?_
  refine G_iconst (v := 0) dX10_oneTie_45 rfl ?_
  refine G_aload_n dX10_oneTie_46 1 rfl ?_
  refine G_getI hclX10 (by decide) rfl 8 (by decide) rfl wd_904 dX10_oneTie_47 ?_
  refine G_iconst (v := 1) dX10_oneTie_50 rfl ?_
  refine G_isub dX10_oneTie_51 ?_
  refine G_callV_IM (m_MD_takesIn _ _ _ M2) cal_MD_takesIn ⟨Nat.le_of_ble_eq_true rfl, Nat.le_of_ble_eq_true rfl⟩ wd_1044 hclX10 (by decide) rfl [.int 97, .int 0, .int ((M2 33 8) - 1)] rfl rfl rfl (Nat.le_of_ble_eq_true rfl) dX10_oneTie_52 (fun r_4 M3 => ?_)
  refine G_istore_n 2 rfl dX10_oneTie_55 (by decide) (L' := [(2, .int r_4), (1, .int r_1), (0, .ref (ad 33))]) rfl ?_
  refine G_iload_n dX10_oneTie_56 0 rfl ?_
  refine G_if_ge 62 dX10_oneTie_57 (by decide) (fun _ => ?_) (fun _ => ?_)
  refine G_aload_n dX10_oneTie_62 2 rfl ?_
  refine G_bipush (v := 48) dX10_oneTie_63 rfl ?_
  refine G_iconst (v := 0) dX10_oneTie_65 rfl ?_
  refine G_iconst (v := 2) dX10_oneTie_66 rfl ?_
  refine G_callV_IM (m_MD_takesIn _ _ _ M3) cal_MD_takesIn ⟨Nat.le_of_ble_eq_true rfl, Nat.le_of_ble_eq_true rfl⟩ wd_1044 hclX10 (by decide) rfl [.int 48, .int 0, .int 2] rfl rfl rfl (Nat.le_of_ble_eq_true rfl) dX10_oneTie_67 (fun r_5 M4 => ?_)
  refine G_istore_n 3 rfl dX10_oneTie_70 (by decide) (L' := [(3, .int r_5), (2, .int r_4), (1, .int r_1), (0, .ref (ad 33))]) rfl ?_
  refine G_iload_n dX10_oneTie_71 0 rfl ?_
  refine G_if_ge 77 dX10_oneTie_72 (by decide) (fun _ => ?_) (fun _ => ?_)
  refine G_aload_n dX10_oneTie_77 3 rfl ?_
  refine G_getR hclX10 (by decide) rfl 18 (by decide) rfl wd_914 dX10_oneTie_78 ?_
  refine G_aload_n dX10_oneTie_81 3 rfl ?_
  refine G_getI hclX10 (by decide) rfl 14 (by decide) rfl wd_910 dX10_oneTie_82 ?_
  refine G_iconst (v := 1) dX10_oneTie_85 rfl ?_
  refine G_iast (by decide) rfl dX10_oneTie_86 (fun M5 => ?_)
  refine G_aload_n dX10_oneTie_87 3 rfl ?_
  refine G_getR hclX10 (by decide) rfl 19 (by decide) rfl wd_915 dX10_oneTie_88 ?_
  refine G_aload_n dX10_oneTie_91 3 rfl ?_
  refine G_getI hclX10 (by decide) rfl 14 (by decide) rfl wd_910 dX10_oneTie_92 ?_
  refine G_iconst (v := 0) dX10_oneTie_95 rfl ?_
  refine G_iast (by decide) rfl dX10_oneTie_96 (fun M6 => ?_)
  refine G_aload_n dX10_oneTie_97 3 rfl ?_
  refine G_getR hclX10 (by decide) rfl 20 (by decide) rfl wd_916 dX10_oneTie_98 ?_
  refine G_aload_n dX10_oneTie_101 3 rfl ?_
  refine G_getI hclX10 (by decide) rfl 14 (by decide) rfl wd_910 dX10_oneTie_102 ?_
  refine G_bipush (v := 100) dX10_oneTie_105 rfl ?_
  refine G_iast (by decide) rfl dX10_oneTie_107 (fun M7 => ?_)
  refine G_aload_n dX10_oneTie_108 3 rfl ?_
  refine G_bipush (v := 42) dX10_oneTie_109 rfl ?_
  refine G_callV_IM (m_MD_takes _ M7) cal_MD_takes ⟨Nat.le_of_ble_eq_true rfl, Nat.le_of_ble_eq_true rfl⟩ wd_1055 hclX10 (by decide) rfl [.int 42] rfl rfl rfl (Nat.le_of_ble_eq_true rfl) dX10_oneTie_111 (fun r_6 M8 => ?_)
  refine G_jp (fun kq => ∀ (M9 : Mem), G X ad mi_MD_oneTie (φIM) 149 [(0, .ref (ad 33)), (1, .int r_1), (2, .int r_4), (3, .int r_5)] [] M9 (kq M9)) (fun M9 => ?_) (fun k_1 hk_1 => ?_)
  refine G_aload_n dX10_oneTie_149 0 rfl ?_
  refine G_bipush (v := 64) dX10_oneTie_150 rfl ?_
  refine G_callV_IM (m_MD_takes _ M9) cal_MD_takes ⟨Nat.le_of_ble_eq_true rfl, Nat.le_of_ble_eq_true rfl⟩ wd_1055 hclX10 (by decide) rfl [.int 64] rfl rfl rfl (Nat.le_of_ble_eq_true rfl) dX10_oneTie_152 (fun r_7 M10 => ?_)
  refine G_jp (fun kq => ∀ (M11 : Mem), G X ad mi_MD_oneTie (φIM) 231 [(0, .ref (ad 33)), (1, .int r_1), (2, .int r_4), (3, .int r_5)] [] M11 (kq M11)) (fun M11 => ?_) (fun k_2 hk_2 => ?_)
  refine G_aload_n dX10_oneTie_231 0 rfl ?_
  refine G_getR hclX10 (by decide) rfl 15 (by decide) rfl wd_911 dX10_oneTie_232 ?_
  refine G_aload_n dX10_oneTie_235 0 rfl ?_
  refine G_getI hclX10 (by decide) rfl 14 (by decide) rfl wd_910 dX10_oneTie_236 ?_
  refine G_iload_n dX10_oneTie_239 1 rfl ?_
  refine G_iast (by decide) rfl dX10_oneTie_240 (fun M12 => ?_)
  refine G_aload_n dX10_oneTie_241 0 rfl ?_
  refine G_getR hclX10 (by decide) rfl 16 (by decide) rfl wd_912 dX10_oneTie_242 ?_
  refine G_aload_n dX10_oneTie_245 0 rfl ?_
  refine G_getI hclX10 (by decide) rfl 14 (by decide) rfl wd_910 dX10_oneTie_246 ?_
  refine G_iload_n dX10_oneTie_249 2 rfl ?_
  refine G_iast (by decide) rfl dX10_oneTie_250 (fun M13 => ?_)
  refine G_aload_n dX10_oneTie_251 0 rfl ?_
  refine G_getR hclX10 (by decide) rfl 17 (by decide) rfl wd_913 dX10_oneTie_252 ?_
  refine G_aload_n dX10_oneTie_255 0 rfl ?_
  refine G_getI hclX10 (by decide) rfl 14 (by decide) rfl wd_910 dX10_oneTie_256 ?_
  refine G_iload_n dX10_oneTie_259 3 rfl ?_
  refine G_iast (by decide) rfl dX10_oneTie_260 (fun M14 => ?_)
  refine G_aload_n dX10_oneTie_261 0 rfl ?_
  refine G_dup dX10_oneTie_262 rfl ?_
  refine G_getI hclX10 (by decide) rfl 14 (by decide) rfl wd_910 dX10_oneTie_263 ?_
  refine G_iconst (v := 1) dX10_oneTie_266 rfl ?_
  refine G_iadd dX10_oneTie_267 ?_
  refine G_put hclX10 (by decide) rfl 14 (by decide) rfl rfl (by decide +kernel) wd_910 dX10_oneTie_268 (fun M15 => ?_)
  refine G_iconst (v := 1) dX10_oneTie_271 rfl ?_
  exact G_zreturn rfl rfl dX10_oneTie_272 rfl
  refine G_if_eq 231 dX10_oneTie_155 (by decide) (fun _ => ?_) (fun _ => ?_)
  refine G_sub [0, 1, 2, 3] rfl ?_
  exact hk_2 M10
  refine G_aload_n dX10_oneTie_158 0 rfl ?_
  refine G_getR hclX10 (by decide) rfl 19 (by decide) rfl wd_915 dX10_oneTie_159 ?_
  refine G_aload_n dX10_oneTie_162 0 rfl ?_
  refine G_getI hclX10 (by decide) rfl 14 (by decide) rfl wd_910 dX10_oneTie_163 ?_
  refine G_aload_n dX10_oneTie_166 0 rfl ?_
  refine G_iconst (v := -1) dX10_oneTie_167 rfl ?_
  refine G_callV_IM (m_MD_years _ M10) cal_MD_years ⟨Nat.le_of_ble_eq_true rfl, Nat.le_of_ble_eq_true rfl⟩ wd_1059 hclX10 (by decide) rfl [.int (-1)] rfl rfl rfl (Nat.le_of_ble_eq_true rfl) dX10_oneTie_168 (fun r_8 M16 => ?_)
  refine G_iast (by decide) rfl dX10_oneTie_171 (fun M17 => ?_)
  refine G_aload_n dX10_oneTie_172 0 rfl ?_
  refine G_getR hclX10 (by decide) rfl 19 (by decide) rfl wd_915 dX10_oneTie_173 ?_
  refine G_aload_n dX10_oneTie_176 0 rfl ?_
  refine G_getI hclX10 (by decide) rfl 14 (by decide) rfl wd_910 dX10_oneTie_177 ?_
  refine G_iald (by decide) rfl dX10_oneTie_180 ?_
  refine G_if_lt 193 dX10_oneTie_181 (by decide) (fun _ => ?_) (fun _ => ?_)
  refine G_iconst (v := 0) dX10_oneTie_193 rfl ?_
  exact G_zreturn rfl rfl dX10_oneTie_194 rfl
  refine G_aload_n dX10_oneTie_184 0 rfl ?_
  refine G_bipush (v := 45) dX10_oneTie_185 rfl ?_
  refine G_callV_IM (m_MD_takes _ M17) cal_MD_takes ⟨Nat.le_of_ble_eq_true rfl, Nat.le_of_ble_eq_true rfl⟩ wd_1055 hclX10 (by decide) rfl [.int 45] rfl rfl rfl (Nat.le_of_ble_eq_true rfl) dX10_oneTie_187 (fun r_9 M18 => ?_)
  refine G_if_ne 195 dX10_oneTie_190 (by decide) (fun _ => ?_) (fun _ => ?_)
  refine G_iconst (v := 0) dX10_oneTie_193 rfl ?_
  exact G_zreturn rfl rfl dX10_oneTie_194 rfl
  refine G_aload_n dX10_oneTie_195 0 rfl ?_
  refine G_getR hclX10 (by decide) rfl 20 (by decide) rfl wd_916 dX10_oneTie_196 ?_
  refine G_aload_n dX10_oneTie_199 0 rfl ?_
  refine G_getI hclX10 (by decide) rfl 14 (by decide) rfl wd_910 dX10_oneTie_200 ?_
  refine G_aload_n dX10_oneTie_203 0 rfl ?_
  refine G_aload_n dX10_oneTie_204 0 rfl ?_
  refine G_getR hclX10 (by decide) rfl 19 (by decide) rfl wd_915 dX10_oneTie_205 ?_
  refine G_aload_n dX10_oneTie_208 0 rfl ?_
  refine G_getI hclX10 (by decide) rfl 14 (by decide) rfl wd_910 dX10_oneTie_209 ?_
  refine G_iald (by decide) rfl dX10_oneTie_212 ?_
  refine G_callV_IM (m_MD_years _ M18) cal_MD_years ⟨Nat.le_of_ble_eq_true rfl, Nat.le_of_ble_eq_true rfl⟩ wd_1059 hclX10 (by decide) rfl [.int (rd M18 47 (M18 33 14))] rfl rfl rfl (Nat.le_of_ble_eq_true rfl) dX10_oneTie_213 (fun r_10 M19 => ?_)
  refine G_iast (by decide) rfl dX10_oneTie_216 (fun M20 => ?_)
  refine G_aload_n dX10_oneTie_217 0 rfl ?_
  refine G_getR hclX10 (by decide) rfl 20 (by decide) rfl wd_916 dX10_oneTie_218 ?_
  refine G_aload_n dX10_oneTie_221 0 rfl ?_
  refine G_getI hclX10 (by decide) rfl 14 (by decide) rfl wd_910 dX10_oneTie_222 ?_
  refine G_iald (by decide) rfl dX10_oneTie_225 ?_
  refine G_if_ge 231 dX10_oneTie_226 (by decide) (fun _ => ?_) (fun _ => ?_)
  refine G_sub [0, 1, 2, 3] rfl ?_
  exact hk_2 M20
  refine G_iconst (v := 0) dX10_oneTie_229 rfl ?_
  exact G_zreturn rfl rfl dX10_oneTie_230 rfl
  refine G_if_eq 149 dX10_oneTie_114 (by decide) (fun _ => ?_) (fun _ => ?_)
  refine G_sub [3, 2, 1, 0] rfl ?_
  exact hk_1 M8
  refine G_aload_n dX10_oneTie_117 3 rfl ?_
  refine G_getR hclX10 (by decide) rfl 18 (by decide) rfl wd_914 dX10_oneTie_118 ?_
  refine G_aload_n dX10_oneTie_121 3 rfl ?_
  refine G_getI hclX10 (by decide) rfl 14 (by decide) rfl wd_910 dX10_oneTie_122 ?_
  refine G_aload_n dX10_oneTie_125 3 rfl ?_
  refine G_bipush (v := 48) dX10_oneTie_126 rfl ?_
  refine G_iconst (v := 1) dX10_oneTie_128 rfl ?_
  refine G_bipush (v := 9) dX10_oneTie_129 rfl ?_
  refine G_callV_IM (m_MD_takesIn _ _ _ M8) cal_MD_takesIn ⟨Nat.le_of_ble_eq_true rfl, Nat.le_of_ble_eq_true rfl⟩ wd_1044 hclX10 (by decide) rfl [.int 48, .int 1, .int 9] rfl rfl rfl (Nat.le_of_ble_eq_true rfl) dX10_oneTie_131 (fun r_11 M21 => ?_)
  refine G_iast (by decide) rfl dX10_oneTie_134 (fun M22 => ?_)
  refine G_aload_n dX10_oneTie_135 3 rfl ?_
  refine G_getR hclX10 (by decide) rfl 18 (by decide) rfl wd_914 dX10_oneTie_136 ?_
  refine G_aload_n dX10_oneTie_139 3 rfl ?_
  refine G_getI hclX10 (by decide) rfl 14 (by decide) rfl wd_910 dX10_oneTie_140 ?_
  refine G_iald (by decide) rfl dX10_oneTie_143 ?_
  refine G_if_ge 149 dX10_oneTie_144 (by decide) (fun _ => ?_) (fun _ => ?_)
  refine G_sub [3, 2, 1, 0] rfl ?_
  exact hk_1 M22
  refine G_iconst (v := 0) dX10_oneTie_147 rfl ?_
  exact G_zreturn rfl rfl dX10_oneTie_148 rfl
  refine G_iconst (v := 0) dX10_oneTie_75 rfl ?_
  exact G_zreturn rfl rfl dX10_oneTie_76 rfl
  refine G_iconst (v := 0) dX10_oneTie_60 rfl ?_
  exact G_zreturn rfl rfl dX10_oneTie_61 rfl

set_option maxRecDepth 100000 in
set_option maxHeartbeats 4000000 in
theorem w_MD_reads_L19 (X : Cx) (ad : Nat → Nat) (kx : Mem → Option (Int32 × Mem)) (hkx : ∀ (Me : Mem), G X ad mi_MD_reads (φIM) 35 [] [] Me (kx Me)) : ∀ (n : Nat) (s : Mem), G X ad mi_MD_reads (φIM) 19 [(0, .ref (ad 33))] [] s (LOOP (fun aq sq => MD_reads_L19 kx aq sq) n s) := by
  refine LOOP_rule (fun (s : Mem) o => G X ad mi_MD_reads (φIM) 19 [(0, .ref (ad 33))] [] s o) (fun _ => G_none) (fun ag hag M4 => ?_)
  show G X ad mi_MD_reads (φIM) 19 [(0, .ref (ad 33))] [] M4 (MD_reads_L19 kx ag M4)
  unfold MD_reads_L19
  refine G_aload_n dX10_reads_19 0 rfl ?_
  refine G_bipush (v := 59) dX10_reads_20 rfl ?_
  refine G_callV_IM (m_MD_takes _ M4) cal_MD_takes ⟨Nat.le_of_ble_eq_true rfl, Nat.le_of_ble_eq_true rfl⟩ wd_1055 hclX10 (by decide) rfl [.int 59] rfl rfl rfl (Nat.le_of_ble_eq_true rfl) dX10_reads_22 (fun r_2 M5 => ?_)
  refine G_if_eq 37 dX10_reads_25 (by decide) (fun _ => ?_) (fun _ => ?_)
  refine G_aload_n dX10_reads_37 0 rfl ?_
  refine G_getI hclX10 (by decide) rfl 13 (by decide) rfl wd_909 dX10_reads_38 ?_
  refine G_aload_n dX10_reads_41 0 rfl ?_
  refine G_getI hclX10 (by decide) rfl 12 (by decide) rfl wd_908 dX10_reads_42 ?_
  refine G_icmp_ne 52 dX10_reads_45 (by decide) (fun _ => ?_) (fun _ => ?_)
  refine G_iconst (v := 1) dX10_reads_48 rfl ?_
  refine G_goto 53 dX10_reads_49 (by decide) ?_
  exact G_zreturn rfl rfl dX10_reads_53 rfl
  refine G_iconst (v := 0) dX10_reads_52 rfl ?_
  exact G_zreturn rfl rfl dX10_reads_53 rfl
  refine G_aload_n dX10_reads_28 0 rfl ?_
  refine G_callV_IM (m_MD_oneTie M5) cal_MD_oneTie ⟨Nat.le_of_ble_eq_true rfl, Nat.le_of_ble_eq_true rfl⟩ wd_1040 hclX10 (by decide) rfl [] rfl rfl rfl (Nat.le_of_ble_eq_true rfl) dX10_reads_29 (fun r_3 M6 => ?_)
  refine G_if_ne 19 dX10_reads_32 (by decide) (fun _ => ?_) (fun _ => ?_)
  refine G_sub [] rfl ?_
  exact hkx M6
  refine G_sub [0] rfl ?_
  exact hag M6

set_option maxRecDepth 100000 in
set_option maxHeartbeats 4000000 in
theorem m_MD_reads (M : Mem) : MC mi_MD_reads (φIM) (fun ad => [.ref (ad 33)]) M (MD_reads M) := by
  refine MC_of rfl (by decide +kernel) (fun ad => [(0, .ref (ad 33))]) (fun _ => rfl) (fun _ => Nat.le_of_ble_eq_true rfl) (fun X ad => ?_)
  show G X ad mi_MD_reads (φIM) 0 [(0, .ref (ad 33))] [] M _
  unfold MD_reads
  refine G_aload_n dX10_reads_0 0 rfl ?_
  refine G_iconst (v := 0) dX10_reads_1 rfl ?_
  refine G_put hclX10 (by decide) rfl 13 (by decide) rfl rfl (by decide +kernel) wd_909 dX10_reads_2 (fun M1 => ?_)
  refine G_aload_n dX10_reads_5 0 rfl ?_
  refine G_iconst (v := 0) dX10_reads_6 rfl ?_
  refine G_put hclX10 (by decide) rfl 14 (by decide) rfl rfl (by decide +kernel) wd_910 dX10_reads_7 (fun M2 => ?_)
  refine G_aload_n dX10_reads_10 0 rfl ?_
  refine G_callV_IM (m_MD_oneTie M2) cal_MD_oneTie ⟨Nat.le_of_ble_eq_true rfl, Nat.le_of_ble_eq_true rfl⟩ wd_1040 hclX10 (by decide) rfl [] rfl rfl rfl (Nat.le_of_ble_eq_true rfl) dX10_reads_11 (fun r_1 M3 => ?_)
  refine G_if_ne 19 dX10_reads_14 (by decide) (fun _ => ?_) (fun _ => ?_)
  refine G_iconst (v := 0) dX10_reads_17 rfl ?_
  exact G_zreturn rfl rfl dX10_reads_18 rfl
  refine G_sub [0] rfl ?_
  refine w_MD_reads_L19 X ad _ (fun M7 => ?_) _ _
  refine G_iconst (v := 0) dX10_reads_35 rfl ?_
  exact G_zreturn rfl rfl dX10_reads_36 rfl

set_option maxRecDepth 100000 in
set_option maxHeartbeats 4000000 in
theorem w_MD_ties_L45 (X : Cx) (ad : Nat → Nat) (kx : Mem → Option (Int32 × Mem)) (hkx : ∀ (Me : Mem), G X ad mi_MD_ties (φIM) 159 [(0, .ref (ad 33))] [] Me (kx Me)) : ∀ (n : Nat) (s : Int32 × Mem), G X ad mi_MD_ties (φIM) 45 [(0, .ref (ad 33)), (2, .int s.1)] [] s.2 (LOOP (fun aq sq => MD_ties_L45 kx aq sq.1 sq.2) n s) := by
  refine LOOP_rule (fun (s : Int32 × Mem) o => G X ad mi_MD_ties (φIM) 45 [(0, .ref (ad 33)), (2, .int s.1)] [] s.2 o) (fun _ => G_none) (fun ag hag s => ?_)
  obtain ⟨v2_1, M3⟩ := s
  show G X ad mi_MD_ties (φIM) 45 [(0, .ref (ad 33)), (2, .int v2_1)] [] M3 (MD_ties_L45 kx ag v2_1 M3)
  unfold MD_ties_L45
  refine G_iload_n dX10_ties_45 1 rfl ?_
  refine G_aload_n dX10_ties_46 0 rfl ?_
  refine G_getI hclX10 (by decide) rfl 14 (by decide) rfl wd_910 dX10_ties_47 ?_
  refine G_icmp_ge 159 dX10_ties_50 (by decide) (fun _ => ?_) (fun _ => ?_)
  refine G_sub [0] rfl ?_
  exact hkx M3
  refine G_aload_n dX10_ties_53 0 rfl ?_
  refine G_getR hclX10 (by decide) rfl 2 (by decide) rfl wd_898 dX10_ties_54 ?_
  refine G_aload_n dX10_ties_57 0 rfl ?_
  refine G_getI hclX10 (by decide) rfl 9 (by decide) rfl wd_905 dX10_ties_58 ?_
  refine G_aload_n dX10_ties_61 0 rfl ?_
  refine G_getR hclX10 (by decide) rfl 15 (by decide) rfl wd_911 dX10_ties_62 ?_
  refine G_iload_n dX10_ties_65 1 rfl ?_
  refine G_iald (by decide) rfl dX10_ties_66 ?_
  refine G_iast (by decide) rfl dX10_ties_67 (fun M4 => ?_)
  refine G_aload_n dX10_ties_68 0 rfl ?_
  refine G_getR hclX10 (by decide) rfl 3 (by decide) rfl wd_899 dX10_ties_69 ?_
  refine G_aload_n dX10_ties_72 0 rfl ?_
  refine G_getI hclX10 (by decide) rfl 9 (by decide) rfl wd_905 dX10_ties_73 ?_
  refine G_aload_n dX10_ties_76 0 rfl ?_
  refine G_getR hclX10 (by decide) rfl 16 (by decide) rfl wd_912 dX10_ties_77 ?_
  refine G_iload_n dX10_ties_80 1 rfl ?_
  refine G_iald (by decide) rfl dX10_ties_81 ?_
  refine G_iast (by decide) rfl dX10_ties_82 (fun M5 => ?_)
  refine G_aload_n dX10_ties_83 0 rfl ?_
  refine G_getR hclX10 (by decide) rfl 4 (by decide) rfl wd_900 dX10_ties_84 ?_
  refine G_aload_n dX10_ties_87 0 rfl ?_
  refine G_getI hclX10 (by decide) rfl 9 (by decide) rfl wd_905 dX10_ties_88 ?_
  refine G_aload_n dX10_ties_91 0 rfl ?_
  refine G_getR hclX10 (by decide) rfl 17 (by decide) rfl wd_913 dX10_ties_92 ?_
  refine G_iload_n dX10_ties_95 1 rfl ?_
  refine G_iald (by decide) rfl dX10_ties_96 ?_
  refine G_iast (by decide) rfl dX10_ties_97 (fun M6 => ?_)
  refine G_aload_n dX10_ties_98 0 rfl ?_
  refine G_getR hclX10 (by decide) rfl 5 (by decide) rfl wd_901 dX10_ties_99 ?_
  refine G_aload_n dX10_ties_102 0 rfl ?_
  refine G_getI hclX10 (by decide) rfl 9 (by decide) rfl wd_905 dX10_ties_103 ?_
  refine G_aload_n dX10_ties_106 0 rfl ?_
  refine G_getR hclX10 (by decide) rfl 18 (by decide) rfl wd_914 dX10_ties_107 ?_
  refine G_iload_n dX10_ties_110 1 rfl ?_
  refine G_iald (by decide) rfl dX10_ties_111 ?_
  refine G_iast (by decide) rfl dX10_ties_112 (fun M7 => ?_)
  refine G_aload_n dX10_ties_113 0 rfl ?_
  refine G_getR hclX10 (by decide) rfl 6 (by decide) rfl wd_902 dX10_ties_114 ?_
  refine G_aload_n dX10_ties_117 0 rfl ?_
  refine G_getI hclX10 (by decide) rfl 9 (by decide) rfl wd_905 dX10_ties_118 ?_
  refine G_aload_n dX10_ties_121 0 rfl ?_
  refine G_getR hclX10 (by decide) rfl 19 (by decide) rfl wd_915 dX10_ties_122 ?_
  refine G_iload_n dX10_ties_125 1 rfl ?_
  refine G_iald (by decide) rfl dX10_ties_126 ?_
  refine G_iast (by decide) rfl dX10_ties_127 (fun M8 => ?_)
  refine G_aload_n dX10_ties_128 0 rfl ?_
  refine G_getR hclX10 (by decide) rfl 7 (by decide) rfl wd_903 dX10_ties_129 ?_
  refine G_aload_n dX10_ties_132 0 rfl ?_
  refine G_getI hclX10 (by decide) rfl 9 (by decide) rfl wd_905 dX10_ties_133 ?_
  refine G_aload_n dX10_ties_136 0 rfl ?_
  refine G_getR hclX10 (by decide) rfl 20 (by decide) rfl wd_916 dX10_ties_137 ?_
  refine G_iload_n dX10_ties_140 1 rfl ?_
  refine G_iald (by decide) rfl dX10_ties_141 ?_
  refine G_iast (by decide) rfl dX10_ties_142 (fun M9 => ?_)
  refine G_aload_n dX10_ties_143 0 rfl ?_
  refine G_dup dX10_ties_144 rfl ?_
  refine G_getI hclX10 (by decide) rfl 9 (by decide) rfl wd_905 dX10_ties_145 ?_
  refine G_iconst (v := 1) dX10_ties_148 rfl ?_
  refine G_iadd dX10_ties_149 ?_
  refine G_put hclX10 (by decide) rfl 9 (by decide) rfl rfl (by decide +kernel) wd_905 dX10_ties_150 (fun M10 => ?_)
  refine G_iinc (v2_1 + 1) dX10_ties_153 1 rfl rfl (by decide) (L' := [(2, .int (v2_1 + 1)), (0, .ref (ad 33))]) rfl ?_
  refine G_goto 45 dX10_ties_156 (by decide) ?_
  refine G_sub [1, 0] rfl ?_
  exact hag (v2_1 + 1, M10)

set_option maxRecDepth 100000 in
set_option maxHeartbeats 4000000 in
theorem m_MD_ties (M : Mem) : MC mi_MD_ties (φIM) (fun ad => [.ref (ad 33)]) M (MD_ties M) := by
  refine MC_of rfl (by decide +kernel) (fun ad => [(0, .ref (ad 33))]) (fun _ => rfl) (fun _ => Nat.le_of_ble_eq_true rfl) (fun X ad => ?_)
  show G X ad mi_MD_ties (φIM) 0 [(0, .ref (ad 33))] [] M _
  unfold MD_ties
  refine G_aload_n dX10_ties_0 0 rfl ?_
  refine G_callV_IM (m_MD_reads M) cal_MD_reads ⟨Nat.le_of_ble_eq_true rfl, Nat.le_of_ble_eq_true rfl⟩ wd_1036 hclX10 (by decide) rfl [] rfl rfl rfl (Nat.le_of_ble_eq_true rfl) dX10_ties_1 (fun r_1 M1 => ?_)
  refine G_istore_n 1 rfl dX10_ties_4 (by decide) (L' := [(1, .int r_1), (0, .ref (ad 33))]) rfl ?_
  refine G_aload_n dX10_ties_5 1 rfl ?_
  refine G_iconst (v := 0) dX10_ties_6 rfl ?_
  refine G_put hclX10 (by decide) rfl 12 (by decide) rfl rfl (by decide +kernel) wd_908 dX10_ties_7 (fun M2 => ?_)
  refine G_iload_n dX10_ties_10 0 rfl ?_
  refine G_if_ne 22 dX10_ties_11 (by decide) (fun _ => ?_) (fun _ => ?_)
  refine G_bipush (v := -20) dX10_ties_14 rfl ?_
  refine G_aload_n dX10_ties_16 1 rfl ?_
  refine G_getI hclX10 (by decide) rfl 13 (by decide) rfl wd_909 dX10_ties_17 ?_
  refine G_isub dX10_ties_20 ?_
  exact G_ireturn rfl rfl dX10_ties_21 rfl
  refine G_aload_n dX10_ties_22 1 rfl ?_
  refine G_getI hclX10 (by decide) rfl 9 (by decide) rfl wd_905 dX10_ties_23 ?_
  refine G_aload_n dX10_ties_26 1 rfl ?_
  refine G_getI hclX10 (by decide) rfl 14 (by decide) rfl wd_910 dX10_ties_27 ?_
  refine G_iadd dX10_ties_30 ?_
  refine G_bipush (v := 60) dX10_ties_31 rfl ?_
  refine G_icmp_le 43 dX10_ties_33 (by decide) (fun _ => ?_) (fun _ => ?_)
  refine G_iconst (v := 0) dX10_ties_43 rfl ?_
  refine G_istore_n 2 rfl dX10_ties_44 (by decide) (L' := [(2, .int 0), (1, .int r_1), (0, .ref (ad 33))]) rfl ?_
  refine G_sub [2, 0] rfl ?_
  refine w_MD_ties_L45 X ad _ (fun M11 => ?_) _ _
  refine G_aload_n dX10_ties_159 0 rfl ?_
  refine G_getI hclX10 (by decide) rfl 9 (by decide) rfl wd_905 dX10_ties_160 ?_
  exact G_ireturn rfl rfl dX10_ties_163 rfl
  refine G_aload_n dX10_ties_36 1 rfl ?_
  refine G_bipush (v := -6) dX10_ties_37 rfl ?_
  refine G_callV_IM (m_MD_no _ M2) cal_MD_no ⟨Nat.le_of_ble_eq_true rfl, Nat.le_of_ble_eq_true rfl⟩ wd_1008 hclX10 (by decide) rfl [.int (-6)] rfl rfl rfl (Nat.le_of_ble_eq_true rfl) dX10_ties_39 (fun r_2 M12 => ?_)
  exact G_ireturn rfl rfl dX10_ties_42 rfl

set_option maxRecDepth 100000 in
set_option maxHeartbeats 4000000 in
theorem w_MD_untie_L24 (X : Cx) (ad : Nat → Nat) (kx : Mem → Option (Int32 × Mem)) (hkx : ∀ (Me : Mem), G X ad mi_MD_untie (φIM) 124 [(0, .ref (ad 33))] [] Me (kx Me)) : ∀ (n : Nat) (s : Int32 × Mem), G X ad mi_MD_untie (φIM) 24 [(0, .ref (ad 33)), (2, .int s.1)] [] s.2 (LOOP (fun aq sq => MD_untie_L24 kx aq sq.1 sq.2) n s) := by
  refine LOOP_rule (fun (s : Int32 × Mem) o => G X ad mi_MD_untie (φIM) 24 [(0, .ref (ad 33)), (2, .int s.1)] [] s.2 o) (fun _ => G_none) (fun ag hag s => ?_)
  obtain ⟨v2_1, M2⟩ := s
  show G X ad mi_MD_untie (φIM) 24 [(0, .ref (ad 33)), (2, .int v2_1)] [] M2 (MD_untie_L24 kx ag v2_1 M2)
  unfold MD_untie_L24
  refine G_iload_n dX10_untie_24 1 rfl ?_
  refine G_aload_n dX10_untie_25 0 rfl ?_
  refine G_getI hclX10 (by decide) rfl 9 (by decide) rfl wd_905 dX10_untie_26 ?_
  refine G_iconst (v := 1) dX10_untie_29 rfl ?_
  refine G_isub dX10_untie_30 ?_
  refine G_icmp_ge 124 dX10_untie_31 (by decide) (fun _ => ?_) (fun _ => ?_)
  refine G_sub [0] rfl ?_
  exact hkx M2
  refine G_aload_n dX10_untie_34 0 rfl ?_
  refine G_getR hclX10 (by decide) rfl 2 (by decide) rfl wd_898 dX10_untie_35 ?_
  refine G_iload_n dX10_untie_38 1 rfl ?_
  refine G_aload_n dX10_untie_39 0 rfl ?_
  refine G_getR hclX10 (by decide) rfl 2 (by decide) rfl wd_898 dX10_untie_40 ?_
  refine G_iload_n dX10_untie_43 1 rfl ?_
  refine G_iconst (v := 1) dX10_untie_44 rfl ?_
  refine G_iadd dX10_untie_45 ?_
  refine G_iald (by decide) rfl dX10_untie_46 ?_
  refine G_iast (by decide) rfl dX10_untie_47 (fun M3 => ?_)
  refine G_aload_n dX10_untie_48 0 rfl ?_
  refine G_getR hclX10 (by decide) rfl 3 (by decide) rfl wd_899 dX10_untie_49 ?_
  refine G_iload_n dX10_untie_52 1 rfl ?_
  refine G_aload_n dX10_untie_53 0 rfl ?_
  refine G_getR hclX10 (by decide) rfl 3 (by decide) rfl wd_899 dX10_untie_54 ?_
  refine G_iload_n dX10_untie_57 1 rfl ?_
  refine G_iconst (v := 1) dX10_untie_58 rfl ?_
  refine G_iadd dX10_untie_59 ?_
  refine G_iald (by decide) rfl dX10_untie_60 ?_
  refine G_iast (by decide) rfl dX10_untie_61 (fun M4 => ?_)
  refine G_aload_n dX10_untie_62 0 rfl ?_
  refine G_getR hclX10 (by decide) rfl 4 (by decide) rfl wd_900 dX10_untie_63 ?_
  refine G_iload_n dX10_untie_66 1 rfl ?_
  refine G_aload_n dX10_untie_67 0 rfl ?_
  refine G_getR hclX10 (by decide) rfl 4 (by decide) rfl wd_900 dX10_untie_68 ?_
  refine G_iload_n dX10_untie_71 1 rfl ?_
  refine G_iconst (v := 1) dX10_untie_72 rfl ?_
  refine G_iadd dX10_untie_73 ?_
  refine G_iald (by decide) rfl dX10_untie_74 ?_
  refine G_iast (by decide) rfl dX10_untie_75 (fun M5 => ?_)
  refine G_aload_n dX10_untie_76 0 rfl ?_
  refine G_getR hclX10 (by decide) rfl 5 (by decide) rfl wd_901 dX10_untie_77 ?_
  refine G_iload_n dX10_untie_80 1 rfl ?_
  refine G_aload_n dX10_untie_81 0 rfl ?_
  refine G_getR hclX10 (by decide) rfl 5 (by decide) rfl wd_901 dX10_untie_82 ?_
  refine G_iload_n dX10_untie_85 1 rfl ?_
  refine G_iconst (v := 1) dX10_untie_86 rfl ?_
  refine G_iadd dX10_untie_87 ?_
  refine G_iald (by decide) rfl dX10_untie_88 ?_
  refine G_iast (by decide) rfl dX10_untie_89 (fun M6 => ?_)
  refine G_aload_n dX10_untie_90 0 rfl ?_
  refine G_getR hclX10 (by decide) rfl 6 (by decide) rfl wd_902 dX10_untie_91 ?_
  refine G_iload_n dX10_untie_94 1 rfl ?_
  refine G_aload_n dX10_untie_95 0 rfl ?_
  refine G_getR hclX10 (by decide) rfl 6 (by decide) rfl wd_902 dX10_untie_96 ?_
  refine G_iload_n dX10_untie_99 1 rfl ?_
  refine G_iconst (v := 1) dX10_untie_100 rfl ?_
  refine G_iadd dX10_untie_101 ?_
  refine G_iald (by decide) rfl dX10_untie_102 ?_
  refine G_iast (by decide) rfl dX10_untie_103 (fun M7 => ?_)
  refine G_aload_n dX10_untie_104 0 rfl ?_
  refine G_getR hclX10 (by decide) rfl 7 (by decide) rfl wd_903 dX10_untie_105 ?_
  refine G_iload_n dX10_untie_108 1 rfl ?_
  refine G_aload_n dX10_untie_109 0 rfl ?_
  refine G_getR hclX10 (by decide) rfl 7 (by decide) rfl wd_903 dX10_untie_110 ?_
  refine G_iload_n dX10_untie_113 1 rfl ?_
  refine G_iconst (v := 1) dX10_untie_114 rfl ?_
  refine G_iadd dX10_untie_115 ?_
  refine G_iald (by decide) rfl dX10_untie_116 ?_
  refine G_iast (by decide) rfl dX10_untie_117 (fun M8 => ?_)
  refine G_iinc (v2_1 + 1) dX10_untie_118 1 rfl rfl (by decide) (L' := [(2, .int (v2_1 + 1)), (0, .ref (ad 33))]) rfl ?_
  refine G_goto 24 dX10_untie_121 (by decide) ?_
  refine G_sub [1, 0] rfl ?_
  exact hag (v2_1 + 1, M8)

set_option maxRecDepth 100000 in
set_option maxHeartbeats 4000000 in
theorem m_MD_untie (v1 : Int32) (M : Mem) : MC mi_MD_untie (φIM) (fun ad => [.ref (ad 33), .int v1]) M (MD_untie v1 M) := by
  refine MC_of rfl (by decide +kernel) (fun ad => [(0, .ref (ad 33)), (1, .int v1)]) (fun _ => rfl) (fun _ => Nat.le_of_ble_eq_true rfl) (fun X ad => ?_)
  show G X ad mi_MD_untie (φIM) 0 [(0, .ref (ad 33)), (1, .int v1)] [] M _
  unfold MD_untie
  refine G_iload_n dX10_untie_0 1 rfl ?_
  refine G_i2l dX10_untie_1 ?_
  refine G_lconst (v := 0) dX10_untie_2 rfl ?_
  refine G_aload_n dX10_untie_3 0 rfl ?_
  refine G_getI hclX10 (by decide) rfl 9 (by decide) rfl wd_905 dX10_untie_4 ?_
  refine G_iconst (v := 1) dX10_untie_7 rfl ?_
  refine G_isub dX10_untie_8 ?_
  refine G_i2l dX10_untie_9 ?_
  refine G_callS_I (m_MD_isIn _ _ _ M) cal_MD_isIn ⟨Nat.le_of_ble_eq_true rfl, Nat.le_of_ble_eq_true rfl⟩ wd_1052 rfl rfl (Nat.le_of_ble_eq_true rfl) dX10_untie_10 (fun r_1 => ?_)
  refine G_if_ne 22 dX10_untie_13 (by decide) (fun _ => ?_) (fun _ => ?_)
  refine G_aload_n dX10_untie_16 0 rfl ?_
  refine G_iconst (v := -1) dX10_untie_17 rfl ?_
  refine G_callV_IM (m_MD_no _ M) cal_MD_no ⟨Nat.le_of_ble_eq_true rfl, Nat.le_of_ble_eq_true rfl⟩ wd_1008 hclX10 (by decide) rfl [.int (-1)] rfl rfl rfl (Nat.le_of_ble_eq_true rfl) dX10_untie_18 (fun r_2 M1 => ?_)
  exact G_ireturn rfl rfl dX10_untie_21 rfl
  refine G_iload_n dX10_untie_22 1 rfl ?_
  refine G_istore_n 2 rfl dX10_untie_23 (by decide) (L' := [(2, .int v1), (0, .ref (ad 33)), (1, .int v1)]) rfl ?_
  refine G_sub [1, 0] rfl ?_
  refine w_MD_untie_L24 X ad _ (fun M9 => ?_) _ _
  refine G_aload_n dX10_untie_124 0 rfl ?_
  refine G_dup dX10_untie_125 rfl ?_
  refine G_getI hclX10 (by decide) rfl 9 (by decide) rfl wd_905 dX10_untie_126 ?_
  refine G_iconst (v := 1) dX10_untie_129 rfl ?_
  refine G_isub dX10_untie_130 ?_
  refine G_put hclX10 (by decide) rfl 9 (by decide) rfl rfl (by decide +kernel) wd_905 dX10_untie_131 (fun M10 => ?_)
  refine G_iconst (v := 1) dX10_untie_134 rfl ?_
  exact G_ireturn rfl rfl dX10_untie_135 rfl

set_option maxRecDepth 100000 in
set_option maxHeartbeats 4000000 in
theorem w_MD_findTies_L2 (X : Cx) (ad : Nat → Nat) (v1_1 : Int32) (kx : Mem → Option Mem) (hkx : ∀ (Me : Mem), G X ad mi_MD_findTies (φV) 22 [(0, .ref (ad 33)), (1, .int v1_1)] [] Me (kx Me)) : ∀ (n : Nat) (s : Int32 × Mem), G X ad mi_MD_findTies (φV) 2 [(0, .ref (ad 33)), (1, .int v1_1), (2, .int s.1)] [] s.2 (LOOP (fun aq sq => MD_findTies_L2 kx aq sq.1 sq.2) n s) := by
  refine LOOP_rule (fun (s : Int32 × Mem) o => G X ad mi_MD_findTies (φV) 2 [(0, .ref (ad 33)), (1, .int v1_1), (2, .int s.1)] [] s.2 o) (fun _ => G_none) (fun ag hag s => ?_)
  obtain ⟨v2_1, M1⟩ := s
  show G X ad mi_MD_findTies (φV) 2 [(0, .ref (ad 33)), (1, .int v1_1), (2, .int v2_1)] [] M1 (MD_findTies_L2 kx ag v2_1 M1)
  unfold MD_findTies_L2
  refine G_iload_n dX10_findTies_2 2 rfl ?_
  refine G_sipush (v := 147) dX10_findTies_3 rfl ?_
  refine G_icmp_ge 22 dX10_findTies_6 (by decide) (fun _ => ?_) (fun _ => ?_)
  refine G_sub [0, 1] rfl ?_
  exact hkx M1
  refine G_aload_n dX10_findTies_9 0 rfl ?_
  refine G_getR hclX10 (by decide) rfl 21 (by decide) rfl wd_917 dX10_findTies_10 ?_
  refine G_iload_n dX10_findTies_13 2 rfl ?_
  refine G_iconst (v := 0) dX10_findTies_14 rfl ?_
  refine G_iast (by decide) rfl dX10_findTies_15 (fun M2 => ?_)
  refine G_iinc (v2_1 + 1) dX10_findTies_16 2 rfl rfl (by decide) (L' := [(2, .int (v2_1 + 1)), (0, .ref (ad 33)), (1, .int v1_1)]) rfl ?_
  refine G_goto 2 dX10_findTies_19 (by decide) ?_
  refine G_sub [1, 2, 0] rfl ?_
  exact hag (v2_1 + 1, M2)

set_option maxRecDepth 100000 in
set_option maxHeartbeats 4000000 in
theorem w_MD_findTies_L24 (X : Cx) (ad : Nat → Nat) (v1_2 : Int32) (kx : Mem → Option Mem) (hkx : ∀ (Me : Mem), G X ad mi_MD_findTies (φV) 95 [] [] Me (kx Me)) : ∀ (n : Nat) (s : Int32 × Mem), G X ad mi_MD_findTies (φV) 24 [(0, .ref (ad 33)), (1, .int v1_2), (2, .int s.1)] [] s.2 (LOOP (fun aq sq => MD_findTies_L24 v1_2 kx aq sq.1 sq.2) n s) := by
  refine LOOP_rule (fun (s : Int32 × Mem) o => G X ad mi_MD_findTies (φV) 24 [(0, .ref (ad 33)), (1, .int v1_2), (2, .int s.1)] [] s.2 o) (fun _ => G_none) (fun ag hag s => ?_)
  obtain ⟨v2_2, M4⟩ := s
  show G X ad mi_MD_findTies (φV) 24 [(0, .ref (ad 33)), (1, .int v1_2), (2, .int v2_2)] [] M4 (MD_findTies_L24 v1_2 kx ag v2_2 M4)
  unfold MD_findTies_L24
  refine G_iload_n dX10_findTies_24 2 rfl ?_
  refine G_aload_n dX10_findTies_25 0 rfl ?_
  refine G_getI hclX10 (by decide) rfl 9 (by decide) rfl wd_905 dX10_findTies_26 ?_
  refine G_icmp_ge 95 dX10_findTies_29 (by decide) (fun _ => ?_) (fun _ => ?_)
  refine G_sub [] rfl ?_
  exact hkx M4
  refine G_aload_n dX10_findTies_32 0 rfl ?_
  refine G_getR hclX10 (by decide) rfl 6 (by decide) rfl wd_902 dX10_findTies_33 ?_
  refine G_iload_n dX10_findTies_36 2 rfl ?_
  refine G_iald (by decide) rfl dX10_findTies_37 ?_
  refine G_iload_n dX10_findTies_38 1 rfl ?_
  refine G_icmp_gt 89 dX10_findTies_39 (by decide) (fun _ => ?_) (fun _ => ?_)
  refine G_iinc (v2_2 + 1) dX10_findTies_89 2 rfl rfl (by decide) (L' := [(2, .int (v2_2 + 1)), (0, .ref (ad 33)), (1, .int v1_2)]) rfl ?_
  refine G_goto 24 dX10_findTies_92 (by decide) ?_
  refine G_sub [1, 2, 0] rfl ?_
  exact hag (v2_2 + 1, M4)
  refine G_iload_n dX10_findTies_42 1 rfl ?_
  refine G_aload_n dX10_findTies_43 0 rfl ?_
  refine G_getR hclX10 (by decide) rfl 7 (by decide) rfl wd_903 dX10_findTies_44 ?_
  refine G_iload_n dX10_findTies_47 2 rfl ?_
  refine G_iald (by decide) rfl dX10_findTies_48 ?_
  refine G_icmp_ge 89 dX10_findTies_49 (by decide) (fun _ => ?_) (fun _ => ?_)
  refine G_iinc (v2_2 + 1) dX10_findTies_89 2 rfl rfl (by decide) (L' := [(2, .int (v2_2 + 1)), (0, .ref (ad 33)), (1, .int v1_2)]) rfl ?_
  refine G_goto 24 dX10_findTies_92 (by decide) ?_
  refine G_sub [1, 2, 0] rfl ?_
  exact hag (v2_2 + 1, M4)
  refine G_aload_n dX10_findTies_52 0 rfl ?_
  refine G_getR hclX10 (by decide) rfl 21 (by decide) rfl wd_917 dX10_findTies_53 ?_
  refine G_bipush (v := 49) dX10_findTies_56 rfl ?_
  refine G_aload_n dX10_findTies_58 0 rfl ?_
  refine G_getR hclX10 (by decide) rfl 4 (by decide) rfl wd_900 dX10_findTies_59 ?_
  refine G_iload_n dX10_findTies_62 2 rfl ?_
  refine G_iald (by decide) rfl dX10_findTies_63 ?_
  refine G_imul dX10_findTies_64 ?_
  refine G_bipush (v := 7) dX10_findTies_65 rfl ?_
  refine G_aload_n dX10_findTies_67 0 rfl ?_
  refine G_getR hclX10 (by decide) rfl 2 (by decide) rfl wd_898 dX10_findTies_68 ?_
  refine G_iload_n dX10_findTies_71 2 rfl ?_
  refine G_iald (by decide) rfl dX10_findTies_72 ?_
  refine G_imul dX10_findTies_73 ?_
  refine G_iadd dX10_findTies_74 ?_
  refine G_aload_n dX10_findTies_75 0 rfl ?_
  refine G_getR hclX10 (by decide) rfl 3 (by decide) rfl wd_899 dX10_findTies_76 ?_
  refine G_iload_n dX10_findTies_79 2 rfl ?_
  refine G_iald (by decide) rfl dX10_findTies_80 ?_
  refine G_iadd dX10_findTies_81 ?_
  refine G_aload_n dX10_findTies_82 0 rfl ?_
  refine G_getR hclX10 (by decide) rfl 5 (by decide) rfl wd_901 dX10_findTies_83 ?_
  refine G_iload_n dX10_findTies_86 2 rfl ?_
  refine G_iald (by decide) rfl dX10_findTies_87 ?_
  refine G_iast (by decide) rfl dX10_findTies_88 (fun M5 => ?_)
  refine G_iinc (v2_2 + 1) dX10_findTies_89 2 rfl rfl (by decide) (L' := [(2, .int (v2_2 + 1)), (0, .ref (ad 33)), (1, .int v1_2)]) rfl ?_
  refine G_goto 24 dX10_findTies_92 (by decide) ?_
  refine G_sub [1, 2, 0] rfl ?_
  exact hag (v2_2 + 1, M5)

set_option maxRecDepth 100000 in
set_option maxHeartbeats 4000000 in
theorem m_MD_findTies (v1 : Int32) (M : Mem) : MC mi_MD_findTies (φV) (fun ad => [.ref (ad 33), .int v1]) M (MD_findTies v1 M) := by
  refine MC_of rfl (by decide +kernel) (fun ad => [(0, .ref (ad 33)), (1, .int v1)]) (fun _ => rfl) (fun _ => Nat.le_of_ble_eq_true rfl) (fun X ad => ?_)
  show G X ad mi_MD_findTies (φV) 0 [(0, .ref (ad 33)), (1, .int v1)] [] M _
  unfold MD_findTies
  refine G_iconst (v := 0) dX10_findTies_0 rfl ?_
  refine G_istore_n 2 rfl dX10_findTies_1 (by decide) (L' := [(2, .int 0), (0, .ref (ad 33)), (1, .int v1)]) rfl ?_
  refine G_sub [1, 2, 0] rfl ?_
  refine w_MD_findTies_L2 X ad v1 _ (fun M3 => ?_) _ _
  refine G_iconst (v := 0) dX10_findTies_22 rfl ?_
  refine G_istore_n 2 rfl dX10_findTies_23 (by decide) (L' := [(2, .int 0), (0, .ref (ad 33)), (1, .int v1)]) rfl ?_
  refine G_sub [1, 2, 0] rfl ?_
  refine w_MD_findTies_L24 X ad v1 _ (fun M6 => ?_) _ _
  exact G_return rfl rfl dX10_findTies_95 rfl

set_option maxRecDepth 100000 in
set_option maxHeartbeats 4000000 in
theorem m_MD_strong (v1 : Int32) (v2 : Int32) (v3 : Int32) (M : Mem) : MC mi_MD_strong (φI M) (fun ad => [.ref (ad 33), .int v1, .int v2, .int v3]) M (MD_strong v1 v2 v3 M) := by
  refine MC_of rfl (by decide +kernel) (fun ad => [(0, .ref (ad 33)), (1, .int v1), (2, .int v2), (3, .int v3)]) (fun _ => rfl) (fun _ => Nat.le_of_ble_eq_true rfl) (fun X ad => ?_)
  show G X ad mi_MD_strong (φI M) 0 [(0, .ref (ad 33)), (1, .int v1), (2, .int v2), (3, .int v3)] [] M _
  unfold MD_strong
  refine G_aload_n dX10_strong_0 0 rfl ?_
  refine G_getR hclX10 (by decide) rfl 21 (by decide) rfl wd_917 dX10_strong_1 ?_
  refine G_bipush (v := 49) dX10_strong_4 rfl ?_
  refine G_iload_n dX10_strong_6 1 rfl ?_
  refine G_imul dX10_strong_7 ?_
  refine G_bipush (v := 7) dX10_strong_8 rfl ?_
  refine G_iload_n dX10_strong_10 2 rfl ?_
  refine G_imul dX10_strong_11 ?_
  refine G_iadd dX10_strong_12 ?_
  refine G_iload_n dX10_strong_13 3 rfl ?_
  refine G_iadd dX10_strong_14 ?_
  refine G_iald (by decide) rfl dX10_strong_15 ?_
  exact G_ireturn rfl rfl dX10_strong_16 rfl

set_option maxRecDepth 100000 in
set_option maxHeartbeats 4000000 in
theorem m_MD_has (v1 : Int32) (v2 : Int32) (v3 : Int32) (M : Mem) : MC mi_MD_has (φI M) (fun ad => [.ref (ad 33), .int v1, .int v2, .int v3]) M (MD_has v1 v2 v3 M) := by
  refine MC_of rfl (by decide +kernel) (fun ad => [(0, .ref (ad 33)), (1, .int v1), (2, .int v2), (3, .int v3)]) (fun _ => rfl) (fun _ => Nat.le_of_ble_eq_true rfl) (fun X ad => ?_)
  show G X ad mi_MD_has (φI M) 0 [(0, .ref (ad 33)), (1, .int v1), (2, .int v2), (3, .int v3)] [] M _
  unfold MD_has
  refine G_aload_n dX10_has_0 0 rfl ?_
  refine G_iload_n dX10_has_1 1 rfl ?_
  refine G_iload_n dX10_has_2 2 rfl ?_
  refine G_iload_n dX10_has_3 3 rfl ?_
  refine G_callV_I (m_MD_strong _ _ _ M) cal_MD_strong ⟨Nat.le_of_ble_eq_true rfl, Nat.le_of_ble_eq_true rfl⟩ wd_1080 hclX10 (by decide) rfl [.int v1, .int v2, .int v3] rfl rfl rfl (Nat.le_of_ble_eq_true rfl) dX10_has_4 (fun r_1 => ?_)
  refine G_if_le 14 dX10_has_7 (by decide) (fun _ => ?_) (fun _ => ?_)
  refine G_iconst (v := 0) dX10_has_14 rfl ?_
  exact G_zreturn rfl rfl dX10_has_15 rfl
  refine G_iconst (v := 1) dX10_has_10 rfl ?_
  refine G_goto 15 dX10_has_11 (by decide) ?_
  exact G_zreturn rfl rfl dX10_has_15 rfl

set_option maxRecDepth 100000 in
set_option maxHeartbeats 4000000 in
theorem m_MD_tie (v1 : Int32) (v2 : Int32) (v3 : Int32) (M : Mem) : MC mi_MD_tie (φIM) (fun ad => [.ref (ad 33), .int v1, .int v2, .int v3]) M (MD_tie v1 v2 v3 M) := by
  refine MC_of rfl (by decide +kernel) (fun ad => [(0, .ref (ad 33)), (1, .int v1), (2, .int v2), (3, .int v3)]) (fun _ => rfl) (fun _ => Nat.le_of_ble_eq_true rfl) (fun X ad => ?_)
  show G X ad mi_MD_tie (φIM) 0 [(0, .ref (ad 33)), (1, .int v1), (2, .int v2), (3, .int v3)] [] M _
  unfold MD_tie
  refine G_iload_n dX10_tie_0 1 rfl ?_
  refine G_callS_I (m_MD_isKind _ M) cal_MD_isKind ⟨Nat.le_of_ble_eq_true rfl, Nat.le_of_ble_eq_true rfl⟩ wd_1073 rfl rfl (Nat.le_of_ble_eq_true rfl) dX10_tie_1 (fun r_1 => ?_)
  refine G_jp (fun kq => G X ad mi_MD_tie (φIM) 28 [(0, .ref (ad 33))] [] M (kq)) ?_ (fun k_1 hk_1 => ?_)
  refine G_aload_n dX10_tie_28 0 rfl ?_
  refine G_iconst (v := -1) dX10_tie_29 rfl ?_
  refine G_callV_IM (m_MD_no _ M) cal_MD_no ⟨Nat.le_of_ble_eq_true rfl, Nat.le_of_ble_eq_true rfl⟩ wd_1008 hclX10 (by decide) rfl [.int (-1)] rfl rfl rfl (Nat.le_of_ble_eq_true rfl) dX10_tie_30 (fun r_2 M1 => ?_)
  exact G_ireturn rfl rfl dX10_tie_33 rfl
  refine G_if_eq 28 dX10_tie_4 (by decide) (fun _ => ?_) (fun _ => ?_)
  refine G_sub [0] rfl ?_
  exact hk_1
  refine G_aload_n dX10_tie_7 0 rfl ?_
  refine G_iload_n dX10_tie_8 2 rfl ?_
  refine G_callV_I (m_MD_isPerson _ M) cal_MD_isPerson ⟨Nat.le_of_ble_eq_true rfl, Nat.le_of_ble_eq_true rfl⟩ wd_1016 hclX10 (by decide) rfl [.int v2] rfl rfl rfl (Nat.le_of_ble_eq_true rfl) dX10_tie_9 (fun r_3 => ?_)
  refine G_if_eq 28 dX10_tie_12 (by decide) (fun _ => ?_) (fun _ => ?_)
  refine G_sub [0] rfl ?_
  exact hk_1
  refine G_aload_n dX10_tie_15 0 rfl ?_
  refine G_iload_n dX10_tie_16 3 rfl ?_
  refine G_callV_I (m_MD_isPerson _ M) cal_MD_isPerson ⟨Nat.le_of_ble_eq_true rfl, Nat.le_of_ble_eq_true rfl⟩ wd_1016 hclX10 (by decide) rfl [.int v3] rfl rfl rfl (Nat.le_of_ble_eq_true rfl) dX10_tie_17 (fun r_4 => ?_)
  refine G_if_eq 28 dX10_tie_20 (by decide) (fun _ => ?_) (fun _ => ?_)
  refine G_sub [0] rfl ?_
  exact hk_1
  refine G_iload_n dX10_tie_23 2 rfl ?_
  refine G_iload_n dX10_tie_24 3 rfl ?_
  refine G_icmp_ne 34 dX10_tie_25 (by decide) (fun _ => ?_) (fun _ => ?_)
  refine G_sub [0] rfl ?_
  exact hk_1
  refine G_aload_n dX10_tie_34 0 rfl ?_
  refine G_aload_n dX10_tie_35 0 rfl ?_
  refine G_getI hclX10 (by decide) rfl 10 (by decide) rfl wd_906 dX10_tie_36 ?_
  refine G_callV_V (m_MD_findTies _ M) cal_MD_findTies ⟨Nat.le_of_ble_eq_true rfl, Nat.le_of_ble_eq_true rfl⟩ wd_1076 hclX10 (by decide) rfl [.int (M 33 10)] rfl rfl rfl (Nat.le_of_ble_eq_true rfl) dX10_tie_39 (fun M2 => ?_)
  refine G_aload_n dX10_tie_42 0 rfl ?_
  refine G_iload_n dX10_tie_43 1 rfl ?_
  refine G_iload_n dX10_tie_44 2 rfl ?_
  refine G_iload_n dX10_tie_45 3 rfl ?_
  refine G_callV_I (m_MD_strong _ _ _ M2) cal_MD_strong ⟨Nat.le_of_ble_eq_true rfl, Nat.le_of_ble_eq_true rfl⟩ wd_1080 hclX10 (by decide) rfl [.int v1, .int v2, .int v3] rfl rfl rfl (Nat.le_of_ble_eq_true rfl) dX10_tie_46 (fun r_5 => ?_)
  exact G_ireturn rfl rfl dX10_tie_49 rfl

set_option maxRecDepth 100000 in
set_option maxHeartbeats 4000000 in
theorem w_MD_degree_L35 (X : Cx) (ad : Nat → Nat) (v1_1 : Int32) (v2_1 : Int32) (v3_1 : Int32) (M2 : Mem) (kx : Int32 → Option (Int32 × Mem)) (hkx : ∀ (e4 : Int32), G X ad mi_MD_degree (φIM) 89 [(4, .int e4)] [] M2 (kx e4)) : ∀ (n : Nat) (s : Int32 × Int32), G X ad mi_MD_degree (φIM) 35 [(0, .ref (ad 33)), (1, .int v1_1), (2, .int v2_1), (3, .int v3_1), (4, .int s.1), (5, .int s.2)] [] M2 (LOOP (fun aq sq => MD_degree_L35 v1_1 v2_1 v3_1 M2 kx aq sq.1 sq.2) n s) := by
  refine LOOP_rule (fun (s : Int32 × Int32) o => G X ad mi_MD_degree (φIM) 35 [(0, .ref (ad 33)), (1, .int v1_1), (2, .int v2_1), (3, .int v3_1), (4, .int s.1), (5, .int s.2)] [] M2 o) (fun _ => G_none) (fun ag hag s => ?_)
  obtain ⟨v4_1, v5_1⟩ := s
  show G X ad mi_MD_degree (φIM) 35 [(0, .ref (ad 33)), (1, .int v1_1), (2, .int v2_1), (3, .int v3_1), (4, .int v4_1), (5, .int v5_1)] [] M2 (MD_degree_L35 v1_1 v2_1 v3_1 M2 kx ag v4_1 v5_1)
  unfold MD_degree_L35
  refine G_iload dX10_degree_35 5 rfl ?_
  refine G_aload_n dX10_degree_37 0 rfl ?_
  refine G_getI hclX10 (by decide) rfl 8 (by decide) rfl wd_904 dX10_degree_38 ?_
  refine G_icmp_ge 89 dX10_degree_41 (by decide) (fun _ => ?_) (fun _ => ?_)
  refine G_sub [4] rfl ?_
  exact hkx v4_1
  refine G_iload dX10_degree_44 4 rfl ?_
  refine G_iload_n dX10_degree_46 3 rfl ?_
  refine G_if_eq 64 dX10_degree_47 (by decide) (fun _ => ?_) (fun _ => ?_)
  refine G_aload_n dX10_degree_64 0 rfl ?_
  refine G_iload_n dX10_degree_65 1 rfl ?_
  refine G_iload_n dX10_degree_66 2 rfl ?_
  refine G_iload dX10_degree_67 5 rfl ?_
  refine G_callV_I (m_MD_has _ _ _ M2) cal_MD_has ⟨Nat.le_of_ble_eq_true rfl, Nat.le_of_ble_eq_true rfl⟩ wd_1088 hclX10 (by decide) rfl [.int v1_1, .int v2_1, .int v5_1] rfl rfl rfl (Nat.le_of_ble_eq_true rfl) dX10_degree_69 (fun r_4 => ?_)
  refine G_if_eq 79 dX10_degree_72 (by decide) (fun _ => ?_) (fun _ => ?_)
  refine G_iconst (v := 0) dX10_degree_79 rfl ?_
  refine G_iadd dX10_degree_80 ?_
  refine G_nmI (fun v4_2 => ?_)
  refine G_istore dX10_degree_81 (by decide) (L' := [(4, .int v4_2), (0, .ref (ad 33)), (1, .int v1_1), (2, .int v2_1), (3, .int v3_1), (5, .int v5_1)]) rfl ?_
  refine G_iinc (v5_1 + 1) dX10_degree_83 5 rfl rfl (by decide) (L' := [(5, .int (v5_1 + 1)), (4, .int v4_2), (0, .ref (ad 33)), (1, .int v1_1), (2, .int v2_1), (3, .int v3_1)]) rfl ?_
  refine G_goto 35 dX10_degree_86 (by decide) ?_
  refine G_sub [2, 3, 4, 5, 1, 0] rfl ?_
  exact hag (v4_2, v5_1 + 1)
  refine G_iconst (v := 1) dX10_degree_75 rfl ?_
  refine G_goto 80 dX10_degree_76 (by decide) ?_
  refine G_iadd dX10_degree_80 ?_
  refine G_nmI (fun v4_3 => ?_)
  refine G_istore dX10_degree_81 (by decide) (L' := [(4, .int v4_3), (0, .ref (ad 33)), (1, .int v1_1), (2, .int v2_1), (3, .int v3_1), (5, .int v5_1)]) rfl ?_
  refine G_iinc (v5_1 + 1) dX10_degree_83 5 rfl rfl (by decide) (L' := [(5, .int (v5_1 + 1)), (4, .int v4_3), (0, .ref (ad 33)), (1, .int v1_1), (2, .int v2_1), (3, .int v3_1)]) rfl ?_
  refine G_goto 35 dX10_degree_86 (by decide) ?_
  refine G_sub [2, 3, 4, 5, 1, 0] rfl ?_
  exact hag (v4_3, v5_1 + 1)
  refine G_aload_n dX10_degree_50 0 rfl ?_
  refine G_iload_n dX10_degree_51 1 rfl ?_
  refine G_iload dX10_degree_52 5 rfl ?_
  refine G_iload_n dX10_degree_54 2 rfl ?_
  refine G_callV_I (m_MD_has _ _ _ M2) cal_MD_has ⟨Nat.le_of_ble_eq_true rfl, Nat.le_of_ble_eq_true rfl⟩ wd_1088 hclX10 (by decide) rfl [.int v1_1, .int v5_1, .int v2_1] rfl rfl rfl (Nat.le_of_ble_eq_true rfl) dX10_degree_55 (fun r_5 => ?_)
  refine G_if_eq 79 dX10_degree_58 (by decide) (fun _ => ?_) (fun _ => ?_)
  refine G_iconst (v := 0) dX10_degree_79 rfl ?_
  refine G_iadd dX10_degree_80 ?_
  refine G_nmI (fun v4_4 => ?_)
  refine G_istore dX10_degree_81 (by decide) (L' := [(4, .int v4_4), (0, .ref (ad 33)), (1, .int v1_1), (2, .int v2_1), (3, .int v3_1), (5, .int v5_1)]) rfl ?_
  refine G_iinc (v5_1 + 1) dX10_degree_83 5 rfl rfl (by decide) (L' := [(5, .int (v5_1 + 1)), (4, .int v4_4), (0, .ref (ad 33)), (1, .int v1_1), (2, .int v2_1), (3, .int v3_1)]) rfl ?_
  refine G_goto 35 dX10_degree_86 (by decide) ?_
  refine G_sub [2, 3, 4, 5, 1, 0] rfl ?_
  exact hag (v4_4, v5_1 + 1)
  refine G_goto 75 dX10_degree_61 (by decide) ?_
  refine G_iconst (v := 1) dX10_degree_75 rfl ?_
  refine G_goto 80 dX10_degree_76 (by decide) ?_
  refine G_iadd dX10_degree_80 ?_
  refine G_nmI (fun v4_5 => ?_)
  refine G_istore dX10_degree_81 (by decide) (L' := [(4, .int v4_5), (0, .ref (ad 33)), (1, .int v1_1), (2, .int v2_1), (3, .int v3_1), (5, .int v5_1)]) rfl ?_
  refine G_iinc (v5_1 + 1) dX10_degree_83 5 rfl rfl (by decide) (L' := [(5, .int (v5_1 + 1)), (4, .int v4_5), (0, .ref (ad 33)), (1, .int v1_1), (2, .int v2_1), (3, .int v3_1)]) rfl ?_
  refine G_goto 35 dX10_degree_86 (by decide) ?_
  refine G_sub [2, 3, 4, 5, 1, 0] rfl ?_
  exact hag (v4_5, v5_1 + 1)

set_option maxRecDepth 100000 in
set_option maxHeartbeats 4000000 in
theorem m_MD_degree (v1 : Int32) (v2 : Int32) (v3 : Int32) (M : Mem) : MC mi_MD_degree (φIM) (fun ad => [.ref (ad 33), .int v1, .int v2, .int v3]) M (MD_degree v1 v2 v3 M) := by
  refine MC_of rfl (by decide +kernel) (fun ad => [(0, .ref (ad 33)), (1, .int v1), (2, .int v2), (3, .int v3)]) (fun _ => rfl) (fun _ => Nat.le_of_ble_eq_true rfl) (fun X ad => ?_)
  show G X ad mi_MD_degree (φIM) 0 [(0, .ref (ad 33)), (1, .int v1), (2, .int v2), (3, .int v3)] [] M _
  unfold MD_degree
  refine G_iload_n dX10_degree_0 1 rfl ?_
  refine G_callS_I (m_MD_isKind _ M) cal_MD_isKind ⟨Nat.le_of_ble_eq_true rfl, Nat.le_of_ble_eq_true rfl⟩ wd_1073 rfl rfl (Nat.le_of_ble_eq_true rfl) dX10_degree_1 (fun r_1 => ?_)
  refine G_jp (fun kq => G X ad mi_MD_degree (φIM) 15 [(0, .ref (ad 33))] [] M (kq)) ?_ (fun k_1 hk_1 => ?_)
  refine G_aload_n dX10_degree_15 0 rfl ?_
  refine G_iconst (v := -1) dX10_degree_16 rfl ?_
  refine G_callV_IM (m_MD_no _ M) cal_MD_no ⟨Nat.le_of_ble_eq_true rfl, Nat.le_of_ble_eq_true rfl⟩ wd_1008 hclX10 (by decide) rfl [.int (-1)] rfl rfl rfl (Nat.le_of_ble_eq_true rfl) dX10_degree_17 (fun r_2 M1 => ?_)
  exact G_ireturn rfl rfl dX10_degree_20 rfl
  refine G_if_eq 15 dX10_degree_4 (by decide) (fun _ => ?_) (fun _ => ?_)
  refine G_sub [0] rfl ?_
  exact hk_1
  refine G_aload_n dX10_degree_7 0 rfl ?_
  refine G_iload_n dX10_degree_8 2 rfl ?_
  refine G_callV_I (m_MD_isPerson _ M) cal_MD_isPerson ⟨Nat.le_of_ble_eq_true rfl, Nat.le_of_ble_eq_true rfl⟩ wd_1016 hclX10 (by decide) rfl [.int v2] rfl rfl rfl (Nat.le_of_ble_eq_true rfl) dX10_degree_9 (fun r_3 => ?_)
  refine G_if_ne 21 dX10_degree_12 (by decide) (fun _ => ?_) (fun _ => ?_)
  refine G_sub [0] rfl ?_
  exact hk_1
  refine G_aload_n dX10_degree_21 0 rfl ?_
  refine G_aload_n dX10_degree_22 0 rfl ?_
  refine G_getI hclX10 (by decide) rfl 10 (by decide) rfl wd_906 dX10_degree_23 ?_
  refine G_callV_V (m_MD_findTies _ M) cal_MD_findTies ⟨Nat.le_of_ble_eq_true rfl, Nat.le_of_ble_eq_true rfl⟩ wd_1076 hclX10 (by decide) rfl [.int (M 33 10)] rfl rfl rfl (Nat.le_of_ble_eq_true rfl) dX10_degree_26 (fun M2 => ?_)
  refine G_iconst (v := 0) dX10_degree_29 rfl ?_
  refine G_istore dX10_degree_30 (by decide) (L' := [(4, .int 0), (0, .ref (ad 33)), (1, .int v1), (2, .int v2), (3, .int v3)]) rfl ?_
  refine G_iconst (v := 0) dX10_degree_32 rfl ?_
  refine G_istore dX10_degree_33 (by decide) (L' := [(5, .int 0), (4, .int 0), (0, .ref (ad 33)), (1, .int v1), (2, .int v2), (3, .int v3)]) rfl ?_
  refine G_sub [2, 3, 4, 5, 1, 0] rfl ?_
  refine w_MD_degree_L35 X ad v1 v2 v3 M2 _ (fun v4_6 => ?_) _ _
  refine G_iload dX10_degree_89 0 rfl ?_
  exact G_ireturn rfl rfl dX10_degree_91 rfl

