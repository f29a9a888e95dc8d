/-! printed by wip/whole/gen.py: the bytecode does what the functions say -/
set_option maxRecDepth 100000 in
set_option maxHeartbeats 4000000 in
theorem m_Sa_match (v0 : Int32) (v1 : Int32) (v2 : Int32) (M : Mem) : MC mi_Sa_match (φI M) (fun ad => [.int v0, .int v1, .int v2]) M (Sa_match v0 v1 v2) := by
  refine MC_of rfl (by decide +kernel) (fun ad => [(0, .int v0), (1, .int v1), (2, .int v2)]) (fun _ => rfl) (fun _ => Nat.le_of_ble_eq_true rfl) (fun X ad => ?_)
  show G X ad mi_Sa_match (φI M) 0 [(0, .int v0), (1, .int v1), (2, .int v2)] [] M _
  unfold Sa_match
  refine G_iload_n dX4_match_0 2 rfl ?_
  refine G_if_eq 17 dX4_match_1 (by decide) (fun _ => ?_) (fun _ => ?_)
  refine G_iload_n dX4_match_17 0 rfl ?_
  refine G_jp (fun kq => ∀ (s_1 : Int32), G X ad mi_Sa_match (φI M) 26 [(1, .int v1)] [.int s_1] M (kq s_1)) (fun s_1 => ?_) (fun k_1 hk_1 => ?_)
  refine G_iload_n dX4_match_26 0 rfl ?_
  refine G_jp (fun kq => ∀ (s_2 : Int32), G X ad mi_Sa_match (φI M) 35 [] [.int s_2, .int s_1] M (kq s_2)) (fun s_2 => ?_) (fun k_2 hk_2 => ?_)
  refine G_icmp_ne 42 dX4_match_35 (by decide) (fun _ => ?_) (fun _ => ?_)
  refine G_iconst (v := 1) dX4_match_38 rfl ?_
  refine G_goto 43 dX4_match_39 (by decide) ?_
  exact G_zreturn rfl rfl dX4_match_43 rfl
  refine G_iconst (v := 0) dX4_match_42 rfl ?_
  exact G_zreturn rfl rfl dX4_match_43 rfl
  refine G_if_le 34 dX4_match_27 (by decide) (fun _ => ?_) (fun _ => ?_)
  refine G_iconst (v := 0) dX4_match_34 rfl ?_
  refine G_sub [] rfl ?_
  exact hk_2 0
  refine G_iconst (v := 1) dX4_match_30 rfl ?_
  refine G_goto 35 dX4_match_31 (by decide) ?_
  refine G_sub [] rfl ?_
  exact hk_2 1
  refine G_if_le 25 dX4_match_18 (by decide) (fun _ => ?_) (fun _ => ?_)
  refine G_iconst (v := 0) dX4_match_25 rfl ?_
  refine G_sub [1] rfl ?_
  exact hk_1 0
  refine G_iconst (v := 1) dX4_match_21 rfl ?_
  refine G_goto 26 dX4_match_22 (by decide) ?_
  refine G_sub [1] rfl ?_
  exact hk_1 1
  refine G_iload_n dX4_match_4 0 rfl ?_
  refine G_iload_n dX4_match_5 1 rfl ?_
  refine G_icmp_ne 13 dX4_match_6 (by decide) (fun _ => ?_) (fun _ => ?_)
  refine G_iconst (v := 1) dX4_match_9 rfl ?_
  refine G_goto 43 dX4_match_10 (by decide) ?_
  exact G_zreturn rfl rfl dX4_match_43 rfl
  refine G_iconst (v := 0) dX4_match_13 rfl ?_
  refine G_goto 43 dX4_match_14 (by decide) ?_
  exact G_zreturn rfl rfl dX4_match_43 rfl

set_option maxRecDepth 100000 in
set_option maxHeartbeats 4000000 in
theorem w_Sa_swappable_L34 (X : Cx) (ad : Nat → Nat) (v1_2 : Int32) (v2_2 : Int32) (v3_2 : Int32) (v4_2 : Int32) (M : Mem) (kx : Int32 → Option Int32) (hkx : ∀ (e5 : Int32), G X ad mi_Sa_swappable (φI M) 123 [(0, .ref (ad 1)), (1, .int v1_2), (2, .int v2_2), (3, .int v3_2), (4, .int v4_2), (5, .int e5)] [] M (kx e5)) : ∀ (n : Nat) (s : Int32 × Int32), G X ad mi_Sa_swappable (φI M) 34 [(0, .ref (ad 1)), (1, .int v1_2), (2, .int v2_2), (3, .int v3_2), (4, .int v4_2), (5, .int s.1), (6, .int s.2)] [] M (LOOP (fun aq sq => Sa_swappable_L34 v1_2 v2_2 v3_2 v4_2 M kx aq sq.1 sq.2) n s) := by
  refine LOOP_rule (fun (s : Int32 × Int32) o => G X ad mi_Sa_swappable (φI M) 34 [(0, .ref (ad 1)), (1, .int v1_2), (2, .int v2_2), (3, .int v3_2), (4, .int v4_2), (5, .int s.1), (6, .int s.2)] [] M o) (fun _ => G_none) (fun ag hag s => ?_)
  obtain ⟨v5_1, v6_1⟩ := s
  show G X ad mi_Sa_swappable (φI M) 34 [(0, .ref (ad 1)), (1, .int v1_2), (2, .int v2_2), (3, .int v3_2), (4, .int v4_2), (5, .int v5_1), (6, .int v6_1)] [] M (Sa_swappable_L34 v1_2 v2_2 v3_2 v4_2 M kx ag v5_1 v6_1)
  unfold Sa_swappable_L34
  refine G_iload dX4_swappable_34 6 rfl ?_
  refine G_aload_n dX4_swappable_36 0 rfl ?_
  refine G_getIN hclX7 (by decide) rfl 2 (by decide) rfl wn_146 dX4_swappable_37 ?_
  refine G_icmp_ge 123 dX4_swappable_40 (by decide) (fun _ => ?_) (fun _ => ?_)
  refine G_sub [0, 1, 2, 3, 4, 5] rfl ?_
  exact hkx v5_1
  refine G_iload dX4_swappable_43 5 rfl ?_
  refine G_if_eq 123 dX4_swappable_45 (by decide) (fun _ => ?_) (fun _ => ?_)
  refine G_sub [0, 1, 2, 3, 4, 5] rfl ?_
  exact hkx v5_1
  refine G_iload dX4_swappable_48 6 rfl ?_
  refine G_iload_n dX4_swappable_50 1 rfl ?_
  refine G_icmp_eq 110 dX4_swappable_51 (by decide) (fun _ => ?_) (fun _ => ?_)
  refine G_iconst (v := 1) dX4_swappable_110 rfl ?_
  refine G_goto 115 dX4_swappable_111 (by decide) ?_
  refine G_istore dX4_swappable_115 (by decide) (L' := [(5, .int 1), (0, .ref (ad 1)), (1, .int v1_2), (2, .int v2_2), (3, .int v3_2), (4, .int v4_2), (6, .int v6_1)]) rfl ?_
  refine G_iinc (v6_1 + 1) dX4_swappable_117 6 rfl rfl (by decide) (L' := [(6, .int (v6_1 + 1)), (5, .int 1), (0, .ref (ad 1)), (1, .int v1_2), (2, .int v2_2), (3, .int v3_2), (4, .int v4_2)]) rfl ?_
  refine G_goto 34 dX4_swappable_120 (by decide) ?_
  refine G_sub [2, 3, 4, 5, 6, 1, 0] rfl ?_
  exact hag (1, v6_1 + 1)
  refine G_iload dX4_swappable_54 6 rfl ?_
  refine G_iload_n dX4_swappable_56 2 rfl ?_
  refine G_icmp_eq 110 dX4_swappable_57 (by decide) (fun _ => ?_) (fun _ => ?_)
  refine G_iconst (v := 1) dX4_swappable_110 rfl ?_
  refine G_goto 115 dX4_swappable_111 (by decide) ?_
  refine G_istore dX4_swappable_115 (by decide) (L' := [(5, .int 1), (0, .ref (ad 1)), (1, .int v1_2), (2, .int v2_2), (3, .int v3_2), (4, .int v4_2), (6, .int v6_1)]) rfl ?_
  refine G_iinc (v6_1 + 1) dX4_swappable_117 6 rfl rfl (by decide) (L' := [(6, .int (v6_1 + 1)), (5, .int 1), (0, .ref (ad 1)), (1, .int v1_2), (2, .int v2_2), (3, .int v3_2), (4, .int v4_2)]) rfl ?_
  refine G_goto 34 dX4_swappable_120 (by decide) ?_
  refine G_sub [2, 3, 4, 5, 6, 1, 0] rfl ?_
  exact hag (1, v6_1 + 1)
  refine G_aload_n dX4_swappable_60 0 rfl ?_
  refine G_iload dX4_swappable_61 4 rfl ?_
  refine G_iload_n dX4_swappable_63 1 rfl ?_
  refine G_iload dX4_swappable_64 6 rfl ?_
  refine G_callVN_I (m_To_strength _ _ _ M) cal_To_strength ⟨Nat.le_of_ble_eq_true rfl, Nat.le_of_ble_eq_true rfl⟩ wn_554 hclX7 (by decide) rfl [.int v4_2, .int v1_2, .int v6_1] rfl rfl rfl (Nat.le_of_ble_eq_true rfl) dX4_swappable_66 (fun r_4 => ?_)
  refine G_aload_n dX4_swappable_69 0 rfl ?_
  refine G_iload dX4_swappable_70 4 rfl ?_
  refine G_iload_n dX4_swappable_72 2 rfl ?_
  refine G_iload dX4_swappable_73 6 rfl ?_
  refine G_callVN_I (m_To_strength _ _ _ M) cal_To_strength ⟨Nat.le_of_ble_eq_true rfl, Nat.le_of_ble_eq_true rfl⟩ wn_554 hclX7 (by decide) rfl [.int v4_2, .int v2_2, .int v6_1] rfl rfl rfl (Nat.le_of_ble_eq_true rfl) dX4_swappable_75 (fun r_5 => ?_)
  refine G_iload_n dX4_swappable_78 3 rfl ?_
  refine G_callS_I (m_Sa_match _ _ _ M) cal_Sa_match ⟨Nat.le_of_ble_eq_true rfl, Nat.le_of_ble_eq_true rfl⟩ wd_555 rfl rfl (Nat.le_of_ble_eq_true rfl) dX4_swappable_79 (fun r_6 => ?_)
  refine G_if_eq 114 dX4_swappable_82 (by decide) (fun _ => ?_) (fun _ => ?_)
  refine G_iconst (v := 0) dX4_swappable_114 rfl ?_
  refine G_istore dX4_swappable_115 (by decide) (L' := [(5, .int 0), (0, .ref (ad 1)), (1, .int v1_2), (2, .int v2_2), (3, .int v3_2), (4, .int v4_2), (6, .int v6_1)]) rfl ?_
  refine G_iinc (v6_1 + 1) dX4_swappable_117 6 rfl rfl (by decide) (L' := [(6, .int (v6_1 + 1)), (5, .int 0), (0, .ref (ad 1)), (1, .int v1_2), (2, .int v2_2), (3, .int v3_2), (4, .int v4_2)]) rfl ?_
  refine G_goto 34 dX4_swappable_120 (by decide) ?_
  refine G_sub [2, 3, 4, 5, 6, 1, 0] rfl ?_
  exact hag (0, v6_1 + 1)
  refine G_aload_n dX4_swappable_85 0 rfl ?_
  refine G_iload dX4_swappable_86 4 rfl ?_
  refine G_iload dX4_swappable_88 6 rfl ?_
  refine G_iload_n dX4_swappable_90 1 rfl ?_
  refine G_callVN_I (m_To_strength _ _ _ M) cal_To_strength ⟨Nat.le_of_ble_eq_true rfl, Nat.le_of_ble_eq_true rfl⟩ wn_554 hclX7 (by decide) rfl [.int v4_2, .int v6_1, .int v1_2] rfl rfl rfl (Nat.le_of_ble_eq_true rfl) dX4_swappable_91 (fun r_7 => ?_)
  refine G_aload_n dX4_swappable_94 0 rfl ?_
  refine G_iload dX4_swappable_95 4 rfl ?_
  refine G_iload dX4_swappable_97 6 rfl ?_
  refine G_iload_n dX4_swappable_99 2 rfl ?_
  refine G_callVN_I (m_To_strength _ _ _ M) cal_To_strength ⟨Nat.le_of_ble_eq_true rfl, Nat.le_of_ble_eq_true rfl⟩ wn_554 hclX7 (by decide) rfl [.int v4_2, .int v6_1, .int v2_2] rfl rfl rfl (Nat.le_of_ble_eq_true rfl) dX4_swappable_100 (fun r_8 => ?_)
  refine G_iload_n dX4_swappable_103 3 rfl ?_
  refine G_callS_I (m_Sa_match _ _ _ M) cal_Sa_match ⟨Nat.le_of_ble_eq_true rfl, Nat.le_of_ble_eq_true rfl⟩ wd_555 rfl rfl (Nat.le_of_ble_eq_true rfl) dX4_swappable_104 (fun r_9 => ?_)
  refine G_if_eq 114 dX4_swappable_107 (by decide) (fun _ => ?_) (fun _ => ?_)
  refine G_iconst (v := 0) dX4_swappable_114 rfl ?_
  refine G_istore dX4_swappable_115 (by decide) (L' := [(5, .int 0), (0, .ref (ad 1)), (1, .int v1_2), (2, .int v2_2), (3, .int v3_2), (4, .int v4_2), (6, .int v6_1)]) rfl ?_
  refine G_iinc (v6_1 + 1) dX4_swappable_117 6 rfl rfl (by decide) (L' := [(6, .int (v6_1 + 1)), (5, .int 0), (0, .ref (ad 1)), (1, .int v1_2), (2, .int v2_2), (3, .int v3_2), (4, .int v4_2)]) rfl ?_
  refine G_goto 34 dX4_swappable_120 (by decide) ?_
  refine G_sub [2, 3, 4, 5, 6, 1, 0] rfl ?_
  exact hag (0, v6_1 + 1)
  refine G_iconst (v := 1) dX4_swappable_110 rfl ?_
  refine G_goto 115 dX4_swappable_111 (by decide) ?_
  refine G_istore dX4_swappable_115 (by decide) (L' := [(5, .int 1), (0, .ref (ad 1)), (1, .int v1_2), (2, .int v2_2), (3, .int v3_2), (4, .int v4_2), (6, .int v6_1)]) rfl ?_
  refine G_iinc (v6_1 + 1) dX4_swappable_117 6 rfl rfl (by decide) (L' := [(6, .int (v6_1 + 1)), (5, .int 1), (0, .ref (ad 1)), (1, .int v1_2), (2, .int v2_2), (3, .int v3_2), (4, .int v4_2)]) rfl ?_
  refine G_goto 34 dX4_swappable_120 (by decide) ?_
  refine G_sub [2, 3, 4, 5, 6, 1, 0] rfl ?_
  exact hag (1, v6_1 + 1)

set_option maxRecDepth 100000 in
set_option maxHeartbeats 4000000 in
theorem w_Sa_swappable_L3 (X : Cx) (ad : Nat → Nat) (v1_1 : Int32) (v2_1 : Int32) (v3_1 : Int32) (M : Mem) (kx : Option Int32) (hkx : G X ad mi_Sa_swappable (φI M) 136 [] [] M (kx)) : ∀ (n : Nat) (s : Int32), G X ad mi_Sa_swappable (φI M) 3 [(0, .ref (ad 1)), (1, .int v1_1), (2, .int v2_1), (3, .int v3_1), (4, .int s)] [] M (LOOP (fun aq sq => Sa_swappable_L3 v1_1 v2_1 v3_1 M kx aq sq) n s) := by
  refine LOOP_rule (fun (s : Int32) o => G X ad mi_Sa_swappable (φI M) 3 [(0, .ref (ad 1)), (1, .int v1_1), (2, .int v2_1), (3, .int v3_1), (4, .int s)] [] M o) (fun _ => G_none) (fun ag hag v4_1 => ?_)
  show G X ad mi_Sa_swappable (φI M) 3 [(0, .ref (ad 1)), (1, .int v1_1), (2, .int v2_1), (3, .int v3_1), (4, .int v4_1)] [] M (Sa_swappable_L3 v1_1 v2_1 v3_1 M kx ag v4_1)
  unfold Sa_swappable_L3
  refine G_iload dX4_swappable_3 4 rfl ?_
  refine G_iconst (v := 3) dX4_swappable_5 rfl ?_
  refine G_icmp_ge 136 dX4_swappable_6 (by decide) (fun _ => ?_) (fun _ => ?_)
  refine G_sub [] rfl ?_
  exact hkx
  refine G_aload_n dX4_swappable_9 0 rfl ?_
  refine G_iload dX4_swappable_10 4 rfl ?_
  refine G_iload_n dX4_swappable_12 1 rfl ?_
  refine G_iload_n dX4_swappable_13 2 rfl ?_
  refine G_callVN_I (m_To_strength _ _ _ M) cal_To_strength ⟨Nat.le_of_ble_eq_true rfl, Nat.le_of_ble_eq_true rfl⟩ wn_554 hclX7 (by decide) rfl [.int v4_1, .int v1_1, .int v2_1] rfl rfl rfl (Nat.le_of_ble_eq_true rfl) dX4_swappable_14 (fun r_1 => ?_)
  refine G_aload_n dX4_swappable_17 0 rfl ?_
  refine G_iload dX4_swappable_18 4 rfl ?_
  refine G_iload_n dX4_swappable_20 2 rfl ?_
  refine G_iload_n dX4_swappable_21 1 rfl ?_
  refine G_callVN_I (m_To_strength _ _ _ M) cal_To_strength ⟨Nat.le_of_ble_eq_true rfl, Nat.le_of_ble_eq_true rfl⟩ wn_554 hclX7 (by decide) rfl [.int v4_1, .int v2_1, .int v1_1] rfl rfl rfl (Nat.le_of_ble_eq_true rfl) dX4_swappable_22 (fun r_2 => ?_)
  refine G_iload_n dX4_swappable_25 3 rfl ?_
  refine G_callS_I (m_Sa_match _ _ _ M) cal_Sa_match ⟨Nat.le_of_ble_eq_true rfl, Nat.le_of_ble_eq_true rfl⟩ wd_555 rfl rfl (Nat.le_of_ble_eq_true rfl) dX4_swappable_26 (fun r_3 => ?_)
  refine G_istore dX4_swappable_29 (by decide) (L' := [(5, .int r_3), (0, .ref (ad 1)), (1, .int v1_1), (2, .int v2_1), (3, .int v3_1), (4, .int v4_1)]) rfl ?_
  refine G_iconst (v := 0) dX4_swappable_31 rfl ?_
  refine G_istore dX4_swappable_32 (by decide) (L' := [(6, .int 0), (5, .int r_3), (0, .ref (ad 1)), (1, .int v1_1), (2, .int v2_1), (3, .int v3_1), (4, .int v4_1)]) rfl ?_
  refine G_sub [2, 3, 4, 5, 6, 1, 0] rfl ?_
  refine w_Sa_swappable_L34 X ad v1_1 v2_1 v3_1 v4_1 M _ (fun v5_2 => ?_) _ _
  refine G_iload dX4_swappable_123 5 rfl ?_
  refine G_if_ne 130 dX4_swappable_125 (by decide) (fun _ => ?_) (fun _ => ?_)
  refine G_iconst (v := 0) dX4_swappable_128 rfl ?_
  exact G_zreturn rfl rfl dX4_swappable_129 rfl
  refine G_iinc (v4_1 + 1) dX4_swappable_130 4 rfl rfl (by decide) (L' := [(4, .int (v4_1 + 1)), (0, .ref (ad 1)), (1, .int v1_1), (2, .int v2_1), (3, .int v3_1), (5, .int v5_2)]) rfl ?_
  refine G_goto 3 dX4_swappable_133 (by decide) ?_
  refine G_sub [1, 2, 3, 4, 0] rfl ?_
  exact hag (v4_1 + 1)

set_option maxRecDepth 100000 in
set_option maxHeartbeats 4000000 in
theorem m_Sa_swappable (v1 : Int32) (v2 : Int32) (v3 : Int32) (M : Mem) : MC mi_Sa_swappable (φI M) (fun ad => [.ref (ad 1), .int v1, .int v2, .int v3]) M (Sa_swappable v1 v2 v3 M) := by
  refine MC_of rfl (by decide +kernel) (fun ad => [(0, .ref (ad 1)), (1, .int v1), (2, .int v2), (3, .int v3)]) (fun _ => rfl) (fun _ => Nat.le_of_ble_eq_true rfl) (fun X ad => ?_)
  show G X ad mi_Sa_swappable (φI M) 0 [(0, .ref (ad 1)), (1, .int v1), (2, .int v2), (3, .int v3)] [] M _
  unfold Sa_swappable
  refine G_iconst (v := 0) dX4_swappable_0 rfl ?_
  refine G_istore dX4_swappable_1 (by decide) (L' := [(4, .int 0), (0, .ref (ad 1)), (1, .int v1), (2, .int v2), (3, .int v3)]) rfl ?_
  refine G_sub [1, 2, 3, 4, 0] rfl ?_
  refine w_Sa_swappable_L3 X ad v1 v2 v3 M _ ?_ _ _
  refine G_iconst (v := 1) dX4_swappable_136 rfl ?_
  exact G_zreturn rfl rfl dX4_swappable_137 rfl

set_option maxRecDepth 100000 in
set_option maxHeartbeats 4000000 in
theorem m_To_sameMark (v1 : Int32) (v2 : Int32) (M : Mem) : MC mi_To_sameMark (φI M) (fun ad => [.ref (ad 1), .int v1, .int v2]) M (To_sameMark v1 v2 M) := by
  refine MC_of rfl (by decide +kernel) (fun ad => [(0, .ref (ad 1)), (1, .int v1), (2, .int v2)]) (fun _ => rfl) (fun _ => Nat.le_of_ble_eq_true rfl) (fun X ad => ?_)
  show G X ad mi_To_sameMark (φI M) 0 [(0, .ref (ad 1)), (1, .int v1), (2, .int v2)] [] M _
  unfold To_sameMark
  refine G_aload_n dX7_sameMark_0 0 rfl ?_
  refine G_getR hclX7 (by decide) rfl 0 (by decide) rfl wd_139 dX7_sameMark_1 ?_
  refine G_iload_n dX7_sameMark_4 1 rfl ?_
  refine G_callSN_I (m_SP_at 2 isA_2 _ M) cal_SP_at ⟨Nat.le_of_ble_eq_true rfl, Nat.le_of_ble_eq_true rfl⟩ wn_550 rfl rfl (Nat.le_of_ble_eq_true rfl) dX7_sameMark_5 (fun r_1 => ?_)
  refine G_aload_n dX7_sameMark_8 0 rfl ?_
  refine G_getR hclX7 (by decide) rfl 0 (by decide) rfl wd_139 dX7_sameMark_9 ?_
  refine G_iload_n dX7_sameMark_12 2 rfl ?_
  refine G_callSN_I (m_SP_at 2 isA_2 _ M) cal_SP_at ⟨Nat.le_of_ble_eq_true rfl, Nat.le_of_ble_eq_true rfl⟩ wn_550 rfl rfl (Nat.le_of_ble_eq_true rfl) dX7_sameMark_13 (fun r_2 => ?_)
  refine G_icmp_ne 23 dX7_sameMark_16 (by decide) (fun _ => ?_) (fun _ => ?_)
  refine G_iconst (v := 1) dX7_sameMark_19 rfl ?_
  refine G_goto 24 dX7_sameMark_20 (by decide) ?_
  exact G_zreturn rfl rfl dX7_sameMark_24 rfl
  refine G_iconst (v := 0) dX7_sameMark_23 rfl ?_
  exact G_zreturn rfl rfl dX7_sameMark_24 rfl

set_option maxRecDepth 100000 in
set_option maxHeartbeats 4000000 in
theorem m_Sa_alike (v2 : Int32) (v3 : Int32) (v4 : Int32) (M : Mem) : MC mi_Sa_alike (φI M) (fun ad => [.ref (ad 14), .ref (ad 1), .int v2, .int v3, .int v4]) M (Sa_alike v2 v3 v4 M) := by
  refine MC_of rfl (by decide +kernel) (fun ad => [(0, .ref (ad 14)), (1, .ref (ad 1)), (2, .int v2), (3, .int v3), (4, .int v4)]) (fun _ => rfl) (fun _ => Nat.le_of_ble_eq_true rfl) (fun X ad => ?_)
  show G X ad mi_Sa_alike (φI M) 0 [(0, .ref (ad 14)), (1, .ref (ad 1)), (2, .int v2), (3, .int v3), (4, .int v4)] [] M _
  unfold Sa_alike
  refine G_aload_n dX4_alike_0 1 rfl ?_
  refine G_iload_n dX4_alike_1 3 rfl ?_
  refine G_iload dX4_alike_2 4 rfl ?_
  refine G_callVN_I (m_To_sameMark _ _ M) cal_To_sameMark ⟨Nat.le_of_ble_eq_true rfl, Nat.le_of_ble_eq_true rfl⟩ wn_546 hclX7 (by decide) rfl [.int v3, .int v4] rfl rfl rfl (Nat.le_of_ble_eq_true rfl) dX4_alike_4 (fun r_1 => ?_)
  refine G_if_ne 12 dX4_alike_7 (by decide) (fun _ => ?_) (fun _ => ?_)
  refine G_iconst (v := 0) dX4_alike_10 rfl ?_
  exact G_zreturn rfl rfl dX4_alike_11 rfl
  refine G_iload_n dX4_alike_12 2 rfl ?_
  refine G_ite (fun hc0 => ?_) (fun hc0 => ?_)
  refine G_tswIn 0 40 dX4_alike_13 hc0 (by decide) (by decide) rfl (by decide) ?_
  refine G_iconst (v := 1) dX4_alike_40 rfl ?_
  exact G_zreturn rfl rfl dX4_alike_41 rfl
  refine G_ite (fun hc1 => ?_) (fun hc1 => ?_)
  refine G_tswIn 1 42 dX4_alike_13 hc1 (by decide) (by decide) rfl (by decide) ?_
  refine G_aload_n dX4_alike_42 1 rfl ?_
  refine G_iload_n dX4_alike_43 3 rfl ?_
  refine G_iload dX4_alike_44 4 rfl ?_
  refine G_iconst (v := 0) dX4_alike_46 rfl ?_
  refine G_callS_I (m_Sa_swappable _ _ _ M) cal_Sa_swappable ⟨Nat.le_of_ble_eq_true rfl, Nat.le_of_ble_eq_true rfl⟩ wd_551 rfl rfl (Nat.le_of_ble_eq_true rfl) dX4_alike_47 (fun r_2 => ?_)
  exact G_zreturn rfl rfl dX4_alike_50 rfl
  refine G_ite (fun hc2 => ?_) (fun hc2 => ?_)
  refine G_tswIn 2 51 dX4_alike_13 hc2 (by decide) (by decide) rfl (by decide) ?_
  refine G_aload_n dX4_alike_51 1 rfl ?_
  refine G_iload_n dX4_alike_52 3 rfl ?_
  refine G_iload dX4_alike_53 4 rfl ?_
  refine G_iconst (v := 1) dX4_alike_55 rfl ?_
  refine G_callS_I (m_Sa_swappable _ _ _ M) cal_Sa_swappable ⟨Nat.le_of_ble_eq_true rfl, Nat.le_of_ble_eq_true rfl⟩ wd_551 rfl rfl (Nat.le_of_ble_eq_true rfl) dX4_alike_56 (fun r_3 => ?_)
  exact G_zreturn rfl rfl dX4_alike_59 rfl
  refine G_tswOut 60 dX4_alike_13 (by have e0 := lv_neT hc0 (k := 0) (a := 0) rfl; have e1 := lv_neT hc1 (k := 1) (a := 1) rfl; have e2 := lv_neT hc2 (k := 2) (a := 2) rfl; omega) (by decide) ?_
  refine G_aload_n dX4_alike_60 0 rfl ?_
  refine G_iload_n dX4_alike_61 3 rfl ?_
  refine G_iload dX4_alike_62 4 rfl ?_
  refine G_callV_I (m_Sa_sameView _ _ M) cal_Sa_sameView ⟨Nat.le_of_ble_eq_true rfl, Nat.le_of_ble_eq_true rfl⟩ wd_558 hclX4 (by decide) rfl [.int v3, .int v4] rfl rfl rfl (Nat.le_of_ble_eq_true rfl) dX4_alike_64 (fun r_4 => ?_)
  exact G_zreturn rfl rfl dX4_alike_67 rfl

set_option maxRecDepth 100000 in
set_option maxHeartbeats 4000000 in
theorem m_Sa_note (v1 : Int32) (v2 : Int32) (v3 : Int32) (M : Mem) : MC mi_Sa_note (φV) (fun ad => [.ref (ad 14), .int v1, .int v2, .int v3]) M (Sa_note v1 v2 v3 M) := by
  refine MC_of rfl (by decide +kernel) (fun ad => [(0, .ref (ad 14)), (1, .int v1), (2, .int v2), (3, .int v3)]) (fun _ => rfl) (fun _ => Nat.le_of_ble_eq_true rfl) (fun X ad => ?_)
  show G X ad mi_Sa_note (φV) 0 [(0, .ref (ad 14)), (1, .int v1), (2, .int v2), (3, .int v3)] [] M _
  unfold Sa_note
  refine G_iconst (v := 1) dX4_note_0 rfl ?_
  refine G_iconst (v := 3) dX4_note_1 rfl ?_
  refine G_iload_n dX4_note_2 2 rfl ?_
  refine G_imul dX4_note_3 ?_
  refine G_ishl dX4_note_4 ?_
  refine G_nmI (fun v4_1 => ?_)
  refine G_istore dX4_note_5 (by decide) (L' := [(4, .int v4_1), (0, .ref (ad 14)), (1, .int v1), (2, .int v2), (3, .int v3)]) rfl ?_
  refine G_aload_n dX4_note_7 1 rfl ?_
  refine G_getR hclX4 (by decide) rfl 0 (by decide) rfl wd_226 dX4_note_8 ?_
  refine G_iload_n dX4_note_11 2 rfl ?_
  refine G_iload_n dX4_note_12 4 rfl ?_
  refine G_jp (fun kq => ∀ (s_1 : Int32), G X ad mi_Sa_note (φV) 41 [] [.int s_1, .int v1, .ref (ad 15)] M (kq s_1)) (fun s_1 => ?_) (fun k_1 hk_1 => ?_)
  refine G_callSN_V (m_SP_put 15 isA_15 _ _ M) cal_SP_put ⟨Nat.le_of_ble_eq_true rfl, Nat.le_of_ble_eq_true rfl⟩ wn_537 rfl rfl (Nat.le_of_ble_eq_true rfl) dX4_note_41 (fun M1 => ?_)
  exact G_return rfl rfl dX4_note_44 rfl
  refine G_if_eq 30 dX4_note_13 (by decide) (fun _ => ?_) (fun _ => ?_)
  refine G_aload_n dX4_note_30 1 rfl ?_
  refine G_getR hclX4 (by decide) rfl 0 (by decide) rfl wd_226 dX4_note_31 ?_
  refine G_iload_n dX4_note_34 2 rfl ?_
  refine G_callSN_I (m_SP_at 15 isA_15 _ M) cal_SP_at ⟨Nat.le_of_ble_eq_true rfl, Nat.le_of_ble_eq_true rfl⟩ wn_536 rfl rfl (Nat.le_of_ble_eq_true rfl) dX4_note_35 (fun r_1 => ?_)
  refine G_iload dX4_note_38 0 rfl ?_
  refine G_ior dX4_note_40 ?_
  refine G_sub [] rfl ?_
  exact hk_1 (r_1 ||| v4_1)
  refine G_aload_n dX4_note_16 1 rfl ?_
  refine G_getR hclX4 (by decide) rfl 0 (by decide) rfl wd_226 dX4_note_17 ?_
  refine G_iload_n dX4_note_20 2 rfl ?_
  refine G_callSN_I (m_SP_at 15 isA_15 _ M) cal_SP_at ⟨Nat.le_of_ble_eq_true rfl, Nat.le_of_ble_eq_true rfl⟩ wn_536 rfl rfl (Nat.le_of_ble_eq_true rfl) dX4_note_21 (fun r_2 => ?_)
  refine G_iload dX4_note_24 0 rfl ?_
  refine G_iadd dX4_note_26 ?_
  refine G_goto 41 dX4_note_27 (by decide) ?_
  refine G_sub [] rfl ?_
  exact hk_1 (r_2 + v4_1)

set_option maxRecDepth 100000 in
set_option maxHeartbeats 4000000 in
theorem w_Sa_look_L46 (X : Cx) (ad : Nat → Nat) (k2 : Nat) (hk2 : isP k2) (v3_3 : Int32) (v4_3 : Int32) (v5_2 : Int32) (kx : Mem → Option Mem) (hkx : ∀ (Me : Mem), G X ad mi_Sa_look (φV) 132 [(0, .ref (ad 14)), (1, .ref (ad 1)), (2, .ref (ad k2)), (3, .int v3_3), (4, .int v4_3), (5, .int v5_2)] [] Me (kx Me)) : ∀ (n : Nat) (s : Int32 × Mem), G X ad mi_Sa_look (φV) 46 [(0, .ref (ad 14)), (1, .ref (ad 1)), (2, .ref (ad k2)), (3, .int v3_3), (4, .int v4_3), (5, .int v5_2), (6, .int s.1)] [] s.2 (LOOP (fun aq sq => Sa_look_L46 k2 v3_3 v4_3 v5_2 kx aq sq.1 sq.2) n s) := by
  refine LOOP_rule (fun (s : Int32 × Mem) o => G X ad mi_Sa_look (φV) 46 [(0, .ref (ad 14)), (1, .ref (ad 1)), (2, .ref (ad k2)), (3, .int v3_3), (4, .int v4_3), (5, .int v5_2), (6, .int s.1)] [] s.2 o) (fun _ => G_none) (fun ag hag s => ?_)
  obtain ⟨v6_1, M4⟩ := s
  show G X ad mi_Sa_look (φV) 46 [(0, .ref (ad 14)), (1, .ref (ad 1)), (2, .ref (ad k2)), (3, .int v3_3), (4, .int v4_3), (5, .int v5_2), (6, .int v6_1)] [] M4 (Sa_look_L46 k2 v3_3 v4_3 v5_2 kx ag v6_1 M4)
  unfold Sa_look_L46
  refine G_iload dX4_look_46 6 rfl ?_
  refine G_aload_n dX4_look_48 1 rfl ?_
  refine G_getIN hclX7 (by decide) rfl 2 (by decide) rfl wn_146 dX4_look_49 ?_
  refine G_icmp_ge 132 dX4_look_52 (by decide) (fun _ => ?_) (fun _ => ?_)
  refine G_sub [0, 1, 2, 3, 4, 5] rfl ?_
  exact hkx M4
  refine G_aload_n dX4_look_55 1 rfl ?_
  refine G_iload dX4_look_56 4 rfl ?_
  refine G_iload dX4_look_58 5 rfl ?_
  refine G_iload dX4_look_60 6 rfl ?_
  refine G_callVN_I (m_To_tied _ _ _ M4) cal_To_tied ⟨Nat.le_of_ble_eq_true rfl, Nat.le_of_ble_eq_true rfl⟩ wn_530 hclX7 (by decide) rfl [.int v4_3, .int v5_2, .int v6_1] rfl rfl rfl (Nat.le_of_ble_eq_true rfl) dX4_look_62 (fun r_1 => ?_)
  refine G_if_eq 126 dX4_look_65 (by decide) (fun _ => ?_) (fun _ => ?_)
  refine G_iinc (v6_1 + 1) dX4_look_126 6 rfl rfl (by decide) (L' := [(6, .int (v6_1 + 1)), (0, .ref (ad 14)), (1, .ref (ad 1)), (2, .ref (ad k2)), (3, .int v3_3), (4, .int v4_3), (5, .int v5_2)]) rfl ?_
  refine G_goto 46 dX4_look_129 (by decide) ?_
  refine G_sub [1, 2, 3, 4, 5, 6, 0] rfl ?_
  exact hag (v6_1 + 1, M4)
  refine G_aload_n dX4_look_68 0 rfl ?_
  refine G_iload dX4_look_69 5 rfl ?_
  refine G_bipush (v := 6) dX4_look_71 rfl ?_
  refine G_imul dX4_look_73 ?_
  refine G_iload dX4_look_74 4 rfl ?_
  refine G_iadd dX4_look_76 ?_
  refine G_aload_n dX4_look_77 2 rfl ?_
  refine G_iload dX4_look_78 6 rfl ?_
  refine G_callVN_I (m_Pa_of k2 hk2 _ M4) cal_Pa_of ⟨Nat.le_of_ble_eq_true rfl, Nat.le_of_ble_eq_true rfl⟩ wn_531 hclX3 (Nat.lt_of_succ_lt hk2.1) hk2.2.1 [.int v6_1] rfl rfl rfl (Nat.le_of_ble_eq_true rfl) dX4_look_80 (fun r_2 => ?_)
  refine G_iload_n dX4_look_83 3 rfl ?_
  refine G_iconst (v := 4) dX4_look_84 rfl ?_
  refine G_jp (fun kq => ∀ (s_1 : Int32), G X ad mi_Sa_look (φV) 93 [(0, .ref (ad 14)), (1, .ref (ad 1)), (2, .ref (ad k2)), (3, .int v3_3), (4, .int v4_3), (5, .int v5_2), (6, .int v6_1)] [.int s_1, .int r_2, .int ((v5_2 * 6) + v4_3), .ref (ad 14)] M4 (kq s_1)) (fun s_1 => ?_) (fun k_1 hk_1 => ?_)
  refine G_callV_V (m_Sa_note _ _ _ M4) cal_Sa_note ⟨Nat.le_of_ble_eq_true rfl, Nat.le_of_ble_eq_true rfl⟩ wd_532 hclX4 (by decide) rfl [.int ((v5_2 * 6) + v4_3), .int r_2, .int s_1] rfl rfl rfl (Nat.le_of_ble_eq_true rfl) dX4_look_93 (fun M5 => ?_)
  refine G_aload_n dX4_look_96 0 rfl ?_
  refine G_iload dX4_look_97 6 rfl ?_
  refine G_bipush (v := 6) dX4_look_99 rfl ?_
  refine G_imul dX4_look_101 ?_
  refine G_iconst (v := 3) dX4_look_102 rfl ?_
  refine G_iadd dX4_look_103 ?_
  refine G_iload dX4_look_104 4 rfl ?_
  refine G_iadd dX4_look_106 ?_
  refine G_aload_n dX4_look_107 2 rfl ?_
  refine G_iload dX4_look_108 5 rfl ?_
  refine G_callVN_I (m_Pa_of k2 hk2 _ M5) cal_Pa_of ⟨Nat.le_of_ble_eq_true rfl, Nat.le_of_ble_eq_true rfl⟩ wn_531 hclX3 (Nat.lt_of_succ_lt hk2.1) hk2.2.1 [.int v5_2] rfl rfl rfl (Nat.le_of_ble_eq_true rfl) dX4_look_110 (fun r_3 => ?_)
  refine G_iload_n dX4_look_113 3 rfl ?_
  refine G_iconst (v := 4) dX4_look_114 rfl ?_
  refine G_jp (fun kq => ∀ (s_2 : Int32), G X ad mi_Sa_look (φV) 123 [(0, .ref (ad 14)), (1, .ref (ad 1)), (2, .ref (ad k2)), (3, .int v3_3), (4, .int v4_3), (5, .int v5_2), (6, .int v6_1)] [.int s_2, .int r_3, .int (((v6_1 * 6) + 3) + v4_3), .ref (ad 14)] M5 (kq s_2)) (fun s_2 => ?_) (fun k_2 hk_2 => ?_)
  refine G_callV_V (m_Sa_note _ _ _ M5) cal_Sa_note ⟨Nat.le_of_ble_eq_true rfl, Nat.le_of_ble_eq_true rfl⟩ wd_532 hclX4 (by decide) rfl [.int (((v6_1 * 6) + 3) + v4_3), .int r_3, .int s_2] rfl rfl rfl (Nat.le_of_ble_eq_true rfl) dX4_look_123 (fun M6 => ?_)
  refine G_iinc (v6_1 + 1) dX4_look_126 6 rfl rfl (by decide) (L' := [(6, .int (v6_1 + 1)), (0, .ref (ad 14)), (1, .ref (ad 1)), (2, .ref (ad k2)), (3, .int v3_3), (4, .int v4_3), (5, .int v5_2)]) rfl ?_
  refine G_goto 46 dX4_look_129 (by decide) ?_
  refine G_sub [1, 2, 3, 4, 5, 6, 0] rfl ?_
  exact hag (v6_1 + 1, M6)
  refine G_icmp_ne 122 dX4_look_115 (by decide) (fun _ => ?_) (fun _ => ?_)
  refine G_iconst (v := 1) dX4_look_118 rfl ?_
  refine G_goto 123 dX4_look_119 (by decide) ?_
  refine G_sub [0, 1, 2, 3, 4, 5, 6] rfl ?_
  exact hk_2 1
  refine G_iconst (v := 0) dX4_look_122 rfl ?_
  refine G_sub [0, 1, 2, 3, 4, 5, 6] rfl ?_
  exact hk_2 0
  refine G_icmp_ne 92 dX4_look_85 (by decide) (fun _ => ?_) (fun _ => ?_)
  refine G_iconst (v := 1) dX4_look_88 rfl ?_
  refine G_goto 93 dX4_look_89 (by decide) ?_
  refine G_sub [0, 1, 2, 3, 4, 5, 6] rfl ?_
  exact hk_1 1
  refine G_iconst (v := 0) dX4_look_92 rfl ?_
  refine G_sub [0, 1, 2, 3, 4, 5, 6] rfl ?_
  exact hk_1 0

set_option maxRecDepth 100000 in
set_option maxHeartbeats 4000000 in
theorem w_Sa_look_L34 (X : Cx) (ad : Nat → Nat) (k2 : Nat) (hk2 : isP k2) (v3_2 : Int32) (v4_2 : Int32) (kx : Mem → Option Mem) (hkx : ∀ (Me : Mem), G X ad mi_Sa_look (φV) 138 [(0, .ref (ad 14)), (1, .ref (ad 1)), (2, .ref (ad k2)), (3, .int v3_2), (4, .int v4_2)] [] Me (kx Me)) : ∀ (n : Nat) (s : Int32 × Mem), G X ad mi_Sa_look (φV) 34 [(0, .ref (ad 14)), (1, .ref (ad 1)), (2, .ref (ad k2)), (3, .int v3_2), (4, .int v4_2), (5, .int s.1)] [] s.2 (LOOP (fun aq sq => Sa_look_L34 k2 v3_2 v4_2 kx aq sq.1 sq.2) n s) := by
  refine LOOP_rule (fun (s : Int32 × Mem) o => G X ad mi_Sa_look (φV) 34 [(0, .ref (ad 14)), (1, .ref (ad 1)), (2, .ref (ad k2)), (3, .int v3_2), (4, .int v4_2), (5, .int s.1)] [] s.2 o) (fun _ => G_none) (fun ag hag s => ?_)
  obtain ⟨v5_1, M3⟩ := s
  show G X ad mi_Sa_look (φV) 34 [(0, .ref (ad 14)), (1, .ref (ad 1)), (2, .ref (ad k2)), (3, .int v3_2), (4, .int v4_2), (5, .int v5_1)] [] M3 (Sa_look_L34 k2 v3_2 v4_2 kx ag v5_1 M3)
  unfold Sa_look_L34
  refine G_iload dX4_look_34 5 rfl ?_
  refine G_aload_n dX4_look_36 1 rfl ?_
  refine G_getIN hclX7 (by decide) rfl 2 (by decide) rfl wn_146 dX4_look_37 ?_
  refine G_icmp_ge 138 dX4_look_40 (by decide) (fun _ => ?_) (fun _ => ?_)
  refine G_sub [0, 1, 2, 3, 4] rfl ?_
  exact hkx M3
  refine G_iconst (v := 0) dX4_look_43 rfl ?_
  refine G_istore dX4_look_44 (by decide) (L' := [(6, .int 0), (0, .ref (ad 14)), (1, .ref (ad 1)), (2, .ref (ad k2)), (3, .int v3_2), (4, .int v4_2), (5, .int v5_1)]) rfl ?_
  refine G_sub [1, 2, 3, 4, 5, 6, 0] rfl ?_
  refine w_Sa_look_L46 X ad k2 hk2 v3_2 v4_2 v5_1 _ (fun M7 => ?_) _ _
  refine G_iinc (v5_1 + 1) dX4_look_132 5 rfl rfl (by decide) (L' := [(5, .int (v5_1 + 1)), (0, .ref (ad 14)), (1, .ref (ad 1)), (2, .ref (ad k2)), (3, .int v3_2), (4, .int v4_2)]) rfl ?_
  refine G_goto 34 dX4_look_135 (by decide) ?_
  refine G_sub [1, 2, 3, 4, 5, 0] rfl ?_
  exact hag (v5_1 + 1, M7)

set_option maxRecDepth 100000 in
set_option maxHeartbeats 4000000 in
theorem w_Sa_look_L25 (X : Cx) (ad : Nat → Nat) (k2 : Nat) (hk2 : isP k2) (v3_1 : Int32) (kx : Mem → Option Mem) (hkx : ∀ (Me : Mem), G X ad mi_Sa_look (φV) 144 [] [] Me (kx Me)) : ∀ (n : Nat) (s : Int32 × Mem), G X ad mi_Sa_look (φV) 25 [(0, .ref (ad 14)), (1, .ref (ad 1)), (2, .ref (ad k2)), (3, .int v3_1), (4, .int s.1)] [] s.2 (LOOP (fun aq sq => Sa_look_L25 k2 v3_1 kx aq sq.1 sq.2) n s) := by
  refine LOOP_rule (fun (s : Int32 × Mem) o => G X ad mi_Sa_look (φV) 25 [(0, .ref (ad 14)), (1, .ref (ad 1)), (2, .ref (ad k2)), (3, .int v3_1), (4, .int s.1)] [] s.2 o) (fun _ => G_none) (fun ag hag s => ?_)
  obtain ⟨v4_1, M2⟩ := s
  show G X ad mi_Sa_look (φV) 25 [(0, .ref (ad 14)), (1, .ref (ad 1)), (2, .ref (ad k2)), (3, .int v3_1), (4, .int v4_1)] [] M2 (Sa_look_L25 k2 v3_1 kx ag v4_1 M2)
  unfold Sa_look_L25
  refine G_iload dX4_look_25 4 rfl ?_
  refine G_iconst (v := 3) dX4_look_27 rfl ?_
  refine G_icmp_ge 144 dX4_look_28 (by decide) (fun _ => ?_) (fun _ => ?_)
  refine G_sub [] rfl ?_
  exact hkx M2
  refine G_iconst (v := 0) dX4_look_31 rfl ?_
  refine G_istore dX4_look_32 (by decide) (L' := [(5, .int 0), (0, .ref (ad 14)), (1, .ref (ad 1)), (2, .ref (ad k2)), (3, .int v3_1), (4, .int v4_1)]) rfl ?_
  refine G_sub [1, 2, 3, 4, 5, 0] rfl ?_
  refine w_Sa_look_L34 X ad k2 hk2 v3_1 v4_1 _ (fun M8 => ?_) _ _
  refine G_iinc (v4_1 + 1) dX4_look_138 4 rfl rfl (by decide) (L' := [(4, .int (v4_1 + 1)), (0, .ref (ad 14)), (1, .ref (ad 1)), (2, .ref (ad k2)), (3, .int v3_1)]) rfl ?_
  refine G_goto 25 dX4_look_141 (by decide) ?_
  refine G_sub [1, 2, 3, 4, 0] rfl ?_
  exact hag (v4_1 + 1, M8)

set_option maxRecDepth 100000 in
set_option maxHeartbeats 4000000 in
theorem m_Sa_look (k2 : Nat) (hk2 : isP k2) (v3 : Int32) (M : Mem) : MC mi_Sa_look (φV) (fun ad => [.ref (ad 14), .ref (ad 1), .ref (ad k2), .int v3]) M (Sa_look k2 v3 M) := by
  refine MC_of rfl (by decide +kernel) (fun ad => [(0, .ref (ad 14)), (1, .ref (ad 1)), (2, .ref (ad k2)), (3, .int v3)]) (fun _ => rfl) (fun _ => Nat.le_of_ble_eq_true rfl) (fun X ad => ?_)
  show G X ad mi_Sa_look (φV) 0 [(0, .ref (ad 14)), (1, .ref (ad 1)), (2, .ref (ad k2)), (3, .int v3)] [] M _
  unfold Sa_look
  refine G_iload_n dX4_look_0 3 rfl ?_
  refine G_if_eq 14 dX4_look_1 (by decide) (fun _ => ?_) (fun _ => ?_)
  exact G_return rfl rfl dX4_look_14 rfl
  refine G_iload_n dX4_look_4 3 rfl ?_
  refine G_iconst (v := 1) dX4_look_5 rfl ?_
  refine G_icmp_eq 14 dX4_look_6 (by decide) (fun _ => ?_) (fun _ => ?_)
  exact G_return rfl rfl dX4_look_14 rfl
  refine G_iload_n dX4_look_9 3 rfl ?_
  refine G_iconst (v := 2) dX4_look_10 rfl ?_
  refine G_icmp_ne 15 dX4_look_11 (by decide) (fun _ => ?_) (fun _ => ?_)
  exact G_return rfl rfl dX4_look_14 rfl
  refine G_aload_n dX4_look_15 0 rfl ?_
  refine G_getR hclX4 (by decide) rfl 0 (by decide) rfl wd_226 dX4_look_16 ?_
  refine G_callSN_V (m_SP_wipe 15 isA_15 M) cal_SP_wipe ⟨Nat.le_of_ble_eq_true rfl, Nat.le_of_ble_eq_true rfl⟩ wn_529 rfl rfl (Nat.le_of_ble_eq_true rfl) dX4_look_19 (fun M1 => ?_)
  refine G_iconst (v := 0) dX4_look_22 rfl ?_
  refine G_istore dX4_look_23 (by decide) (L' := [(4, .int 0), (0, .ref (ad 14)), (1, .ref (ad 1)), (2, .ref (ad k2)), (3, .int v3)]) rfl ?_
  refine G_sub [1, 2, 3, 4, 0] rfl ?_
  refine w_Sa_look_L25 X ad k2 hk2 v3 _ (fun M9 => ?_) _ _
  exact G_return rfl rfl dX4_look_144 rfl

set_option maxRecDepth 100000 in
set_option maxHeartbeats 4000000 in
theorem w_Sa_firstUnlike_L25 (X : Cx) (ad : Nat → Nat) (v3_2 : Int32) (v4_2 : Int32) (M1 : Mem) (kx : Option (Int32 × Mem)) (hkx : G X ad mi_Sa_firstUnlike (φIM) 73 [(0, .ref (ad 14)), (1, .ref (ad 1)), (2, .ref (ad 26)), (3, .int v3_2), (4, .int v4_2)] [] M1 (kx)) : ∀ (n : Nat) (s : Int32), G X ad mi_Sa_firstUnlike (φIM) 25 [(0, .ref (ad 14)), (1, .ref (ad 1)), (2, .ref (ad 26)), (3, .int v3_2), (4, .int v4_2), (5, .int s)] [] M1 (LOOP (fun aq sq => Sa_firstUnlike_L25 v3_2 v4_2 M1 kx aq sq) n s) := by
  refine LOOP_rule (fun (s : Int32) o => G X ad mi_Sa_firstUnlike (φIM) 25 [(0, .ref (ad 14)), (1, .ref (ad 1)), (2, .ref (ad 26)), (3, .int v3_2), (4, .int v4_2), (5, .int s)] [] M1 o) (fun _ => G_none) (fun ag hag v5_2 => ?_)
  show G X ad mi_Sa_firstUnlike (φIM) 25 [(0, .ref (ad 14)), (1, .ref (ad 1)), (2, .ref (ad 26)), (3, .int v3_2), (4, .int v4_2), (5, .int v5_2)] [] M1 (Sa_firstUnlike_L25 v3_2 v4_2 M1 kx ag v5_2)
  unfold Sa_firstUnlike_L25
  refine G_iload dX4_firstUnlike_25 5 rfl ?_
  refine G_aload_n dX4_firstUnlike_27 1 rfl ?_
  refine G_getIN hclX7 (by decide) rfl 2 (by decide) rfl wn_146 dX4_firstUnlike_28 ?_
  refine G_icmp_ge 73 dX4_firstUnlike_31 (by decide) (fun _ => ?_) (fun _ => ?_)
  refine G_sub [0, 1, 2, 3, 4] rfl ?_
  exact hkx
  refine G_aload_n dX4_firstUnlike_34 2 rfl ?_
  refine G_iload dX4_firstUnlike_35 4 rfl ?_
  refine G_iload dX4_firstUnlike_37 5 rfl ?_
  refine G_callVN_I (m_Pa_together 26 isP_26 _ _ M1) cal_Pa_together ⟨Nat.le_of_ble_eq_true rfl, Nat.le_of_ble_eq_true rfl⟩ wn_538 hclX3 (by decide) rfl [.int v4_2, .int v5_2] rfl rfl rfl (Nat.le_of_ble_eq_true rfl) dX4_firstUnlike_39 (fun r_1 => ?_)
  refine G_if_eq 67 dX4_firstUnlike_42 (by decide) (fun _ => ?_) (fun _ => ?_)
  refine G_iinc (v5_2 + 1) dX4_firstUnlike_67 5 rfl rfl (by decide) (L' := [(5, .int (v5_2 + 1)), (0, .ref (ad 14)), (1, .ref (ad 1)), (2, .ref (ad 26)), (3, .int v3_2), (4, .int v4_2)]) rfl ?_
  refine G_goto 25 dX4_firstUnlike_70 (by decide) ?_
  refine G_sub [1, 2, 3, 4, 5, 0] rfl ?_
  exact hag (v5_2 + 1)
  refine G_aload_n dX4_firstUnlike_45 0 rfl ?_
  refine G_aload_n dX4_firstUnlike_46 1 rfl ?_
  refine G_iload_n dX4_firstUnlike_47 3 rfl ?_
  refine G_iload dX4_firstUnlike_48 4 rfl ?_
  refine G_iload dX4_firstUnlike_50 5 rfl ?_
  refine G_callV_I (m_Sa_alike _ _ _ M1) cal_Sa_alike ⟨Nat.le_of_ble_eq_true rfl, Nat.le_of_ble_eq_true rfl⟩ wd_542 hclX4 (by decide) rfl [.ref (ad 1), .int v3_2, .int v4_2, .int v5_2] rfl rfl rfl (Nat.le_of_ble_eq_true rfl) dX4_firstUnlike_52 (fun r_2 => ?_)
  refine G_if_ne 67 dX4_firstUnlike_55 (by decide) (fun _ => ?_) (fun _ => ?_)
  refine G_bipush (v := 10) dX4_firstUnlike_58 rfl ?_
  refine G_iload dX4_firstUnlike_60 4 rfl ?_
  refine G_imul dX4_firstUnlike_62 ?_
  refine G_iload dX4_firstUnlike_63 5 rfl ?_
  refine G_iadd dX4_firstUnlike_65 ?_
  exact G_ireturn rfl rfl dX4_firstUnlike_66 rfl
  refine G_iinc (v5_2 + 1) dX4_firstUnlike_67 5 rfl rfl (by decide) (L' := [(5, .int (v5_2 + 1)), (0, .ref (ad 14)), (1, .ref (ad 1)), (2, .ref (ad 26)), (3, .int v3_2), (4, .int v4_2)]) rfl ?_
  refine G_goto 25 dX4_firstUnlike_70 (by decide) ?_
  refine G_sub [1, 2, 3, 4, 5, 0] rfl ?_
  exact hag (v5_2 + 1)

set_option maxRecDepth 100000 in
set_option maxHeartbeats 4000000 in
theorem w_Sa_firstUnlike_L10 (X : Cx) (ad : Nat → Nat) (v3_1 : Int32) (M1 : Mem) (kx : Option (Int32 × Mem)) (hkx : G X ad mi_Sa_firstUnlike (φIM) 79 [] [] M1 (kx)) : ∀ (n : Nat) (s : Int32), G X ad mi_Sa_firstUnlike (φIM) 10 [(0, .ref (ad 14)), (1, .ref (ad 1)), (2, .ref (ad 26)), (3, .int v3_1), (4, .int s)] [] M1 (LOOP (fun aq sq => Sa_firstUnlike_L10 v3_1 M1 kx aq sq) n s) := by
  refine LOOP_rule (fun (s : Int32) o => G X ad mi_Sa_firstUnlike (φIM) 10 [(0, .ref (ad 14)), (1, .ref (ad 1)), (2, .ref (ad 26)), (3, .int v3_1), (4, .int s)] [] M1 o) (fun _ => G_none) (fun ag hag v4_1 => ?_)
  show G X ad mi_Sa_firstUnlike (φIM) 10 [(0, .ref (ad 14)), (1, .ref (ad 1)), (2, .ref (ad 26)), (3, .int v3_1), (4, .int v4_1)] [] M1 (Sa_firstUnlike_L10 v3_1 M1 kx ag v4_1)
  unfold Sa_firstUnlike_L10
  refine G_iload dX4_firstUnlike_10 4 rfl ?_
  refine G_aload_n dX4_firstUnlike_12 1 rfl ?_
  refine G_getIN hclX7 (by decide) rfl 2 (by decide) rfl wn_146 dX4_firstUnlike_13 ?_
  refine G_icmp_ge 79 dX4_firstUnlike_16 (by decide) (fun _ => ?_) (fun _ => ?_)
  refine G_sub [] rfl ?_
  exact hkx
  refine G_iload dX4_firstUnlike_19 4 rfl ?_
  refine G_iconst (v := 1) dX4_firstUnlike_21 rfl ?_
  refine G_iadd dX4_firstUnlike_22 ?_
  refine G_nmI (fun v5_1 => ?_)
  refine G_istore dX4_firstUnlike_23 (by decide) (L' := [(5, .int v5_1), (0, .ref (ad 14)), (1, .ref (ad 1)), (2, .ref (ad 26)), (3, .int v3_1), (4, .int v4_1)]) rfl ?_
  refine G_sub [1, 2, 3, 4, 5, 0] rfl ?_
  refine w_Sa_firstUnlike_L25 X ad v3_1 v4_1 M1 _ ?_ _ _
  refine G_iinc (v4_1 + 1) dX4_firstUnlike_73 4 rfl rfl (by decide) (L' := [(4, .int (v4_1 + 1)), (0, .ref (ad 14)), (1, .ref (ad 1)), (2, .ref (ad 26)), (3, .int v3_1)]) rfl ?_
  refine G_goto 10 dX4_firstUnlike_76 (by decide) ?_
  refine G_sub [1, 2, 3, 4, 0] rfl ?_
  exact hag (v4_1 + 1)

set_option maxRecDepth 100000 in
set_option maxHeartbeats 4000000 in
theorem m_Sa_firstUnlike (v3 : Int32) (M : Mem) : MC mi_Sa_firstUnlike (φIM) (fun ad => [.ref (ad 14), .ref (ad 1), .ref (ad 26), .int v3]) M (Sa_firstUnlike v3 M) := by
  refine MC_of rfl (by decide +kernel) (fun ad => [(0, .ref (ad 14)), (1, .ref (ad 1)), (2, .ref (ad 26)), (3, .int v3)]) (fun _ => rfl) (fun _ => Nat.le_of_ble_eq_true rfl) (fun X ad => ?_)
  show G X ad mi_Sa_firstUnlike (φIM) 0 [(0, .ref (ad 14)), (1, .ref (ad 1)), (2, .ref (ad 26)), (3, .int v3)] [] M _
  unfold Sa_firstUnlike
  refine G_aload_n dX4_firstUnlike_0 0 rfl ?_
  refine G_aload_n dX4_firstUnlike_1 1 rfl ?_
  refine G_aload_n dX4_firstUnlike_2 2 rfl ?_
  refine G_iload_n dX4_firstUnlike_3 3 rfl ?_
  refine G_callV_V (m_Sa_look 26 isP_26 _ M) cal_Sa_look ⟨Nat.le_of_ble_eq_true rfl, Nat.le_of_ble_eq_true rfl⟩ wd_525 hclX4 (by decide) rfl [.ref (ad 1), .ref (ad 26), .int v3] rfl rfl rfl (Nat.le_of_ble_eq_true rfl) dX4_firstUnlike_4 (fun M1 => ?_)
  refine G_iconst (v := 0) dX4_firstUnlike_7 rfl ?_
  refine G_istore dX4_firstUnlike_8 (by decide) (L' := [(4, .int 0), (0, .ref (ad 14)), (1, .ref (ad 1)), (2, .ref (ad 26)), (3, .int v3)]) rfl ?_
  refine G_sub [1, 2, 3, 4, 0] rfl ?_
  refine w_Sa_firstUnlike_L10 X ad v3 M1 _ ?_ _ _
  refine G_bipush (v := -9) dX4_firstUnlike_79 rfl ?_
  exact G_ireturn rfl rfl dX4_firstUnlike_81 rfl

set_option maxRecDepth 100000 in
set_option maxHeartbeats 4000000 in
theorem m_SP_judge (v1 : Int32) (v2 : Int32) (M : Mem) : MC mi_SP_judge (φIM) (fun ad => [.ref (ad 0), .int v1, .int v2]) M (SP_judge v1 v2 M) := by
  refine MC_of rfl (by decide +kernel) (fun ad => [(0, .ref (ad 0)), (1, .int v1), (2, .int v2)]) (fun _ => rfl) (fun _ => Nat.le_of_ble_eq_true rfl) (fun X ad => ?_)
  show G X ad mi_SP_judge (φIM) 0 [(0, .ref (ad 0)), (1, .int v1), (2, .int v2)] [] M _
  unfold SP_judge
  refine G_aload_n dX9_judge_0 0 rfl ?_
  refine G_getR hclX9 (by decide) rfl 8 (by decide) rfl wd_315 dX9_judge_1 ?_
  refine G_iload_n dX9_judge_4 1 rfl ?_
  refine G_aload_n dX9_judge_5 0 rfl ?_
  refine G_getR hclX9 (by decide) rfl 0 (by decide) rfl wd_307 dX9_judge_6 ?_
  refine G_getIN hclX7 (by decide) rfl 2 (by decide) rfl wn_147 dX9_judge_9 ?_
  refine G_callVN_IM (m_Pa_readNumber 26 isP_26 _ _ M) cal_Pa_readNumber ⟨Nat.le_of_ble_eq_true rfl, Nat.le_of_ble_eq_true rfl⟩ wn_501 hclX3 (by decide) rfl [.int v1, .int (M 1 2)] rfl rfl rfl (Nat.le_of_ble_eq_true rfl) dX9_judge_12 (fun r_1 M1 => ?_)
  refine G_jp (fun kq => G X ad mi_SP_judge (φIM) 25 [(0, .ref (ad 0))] [] M1 (kq)) ?_ (fun k_1 hk_1 => ?_)
  refine G_aload_n dX9_judge_25 0 rfl ?_
  refine G_iconst (v := -1) dX9_judge_26 rfl ?_
  refine G_callV_IM (m_SP_refuse _ M1) cal_SP_refuse ⟨Nat.le_of_ble_eq_true rfl, Nat.le_of_ble_eq_true rfl⟩ wd_351 hclX9 (by decide) rfl [.int (-1)] rfl rfl rfl (Nat.le_of_ble_eq_true rfl) dX9_judge_27 (fun r_2 M2 => ?_)
  exact G_ireturn rfl rfl dX9_judge_30 rfl
  refine G_if_eq 25 dX9_judge_15 (by decide) (fun _ => ?_) (fun _ => ?_)
  refine G_sub [0] rfl ?_
  exact hk_1
  refine G_iload_n dX9_judge_18 2 rfl ?_
  refine G_callS_I (m_SP_isSameness _ M1) cal_SP_isSameness ⟨Nat.le_of_ble_eq_true rfl, Nat.le_of_ble_eq_true rfl⟩ wd_518 rfl rfl (Nat.le_of_ble_eq_true rfl) dX9_judge_19 (fun r_3 => ?_)
  refine G_if_ne 31 dX9_judge_22 (by decide) (fun _ => ?_) (fun _ => ?_)
  refine G_sub [0] rfl ?_
  exact hk_1
  refine G_aload_n dX9_judge_31 0 rfl ?_
  refine G_aload_n dX9_judge_32 0 rfl ?_
  refine G_getI hclX9 (by decide) rfl 12 (by decide) rfl wd_319 dX9_judge_33 ?_
  refine G_callV_V (m_SP_lookAt _ M1) cal_SP_lookAt ⟨Nat.le_of_ble_eq_true rfl, Nat.le_of_ble_eq_true rfl⟩ wd_468 hclX9 (by decide) rfl [.int (M1 0 12)] rfl rfl rfl (Nat.le_of_ble_eq_true rfl) dX9_judge_36 (fun M3 => ?_)
  refine G_aload_n dX9_judge_39 0 rfl ?_
  refine G_getR hclX9 (by decide) rfl 4 (by decide) rfl wd_311 dX9_judge_40 ?_
  refine G_aload_n dX9_judge_43 0 rfl ?_
  refine G_getR hclX9 (by decide) rfl 0 (by decide) rfl wd_307 dX9_judge_44 ?_
  refine G_aload_n dX9_judge_47 0 rfl ?_
  refine G_getR hclX9 (by decide) rfl 8 (by decide) rfl wd_315 dX9_judge_48 ?_
  refine G_iload_n dX9_judge_51 2 rfl ?_
  refine G_callVN_IM (m_Sa_firstUnlike _ M3) cal_Sa_firstUnlike ⟨Nat.le_of_ble_eq_true rfl, Nat.le_of_ble_eq_true rfl⟩ wn_521 hclX4 (by decide) rfl [.ref (ad 1), .ref (ad 26), .int v2] rfl rfl rfl (Nat.le_of_ble_eq_true rfl) dX9_judge_52 (fun r_4 M4 => ?_)
  exact G_ireturn rfl rfl dX9_judge_55 rfl

set_option maxRecDepth 100000 in
set_option maxHeartbeats 4000000 in
theorem w_Pa_number_L4 (X : Cx) (ad : Nat → Nat) (k0 : Nat) (hk0 : isP k0) (M : Mem) (kx : Int32 → Option Int32) (hkx : ∀ (e1 : Int32), G X ad mi_Pa_number (φI M) 29 [(1, .int e1)] [] M (kx e1)) : ∀ (n : Nat) (s : Int32 × Int32), G X ad mi_Pa_number (φI M) 4 [(0, .ref (ad k0)), (1, .int s.1), (2, .int s.2)] [] M (LOOP (fun aq sq => Pa_number_L4 k0 M kx aq sq.1 sq.2) n s) := by
  refine LOOP_rule (fun (s : Int32 × Int32) o => G X ad mi_Pa_number (φI M) 4 [(0, .ref (ad k0)), (1, .int s.1), (2, .int s.2)] [] M o) (fun _ => G_none) (fun ag hag s => ?_)
  obtain ⟨v1_1, v2_1⟩ := s
  show G X ad mi_Pa_number (φI M) 4 [(0, .ref (ad k0)), (1, .int v1_1), (2, .int v2_1)] [] M (Pa_number_L4 k0 M kx ag v1_1 v2_1)
  unfold Pa_number_L4
  refine G_iload_n dX3_number_4 2 rfl ?_
  refine G_aload_n dX3_number_5 0 rfl ?_
  refine G_getI hclX3 (Nat.lt_of_succ_lt hk0.1) hk0.2.1 1 (by decide) rfl wd_285 dX3_number_6 ?_
  refine G_icmp_ge 29 dX3_number_9 (by decide) (fun _ => ?_) (fun _ => ?_)
  refine G_sub [1] rfl ?_
  exact hkx v1_1
  refine G_iload_n dX3_number_12 1 rfl ?_
  refine G_bipush (v := 10) dX3_number_13 rfl ?_
  refine G_imul dX3_number_15 ?_
  refine G_aload_n dX3_number_16 0 rfl ?_
  refine G_iload_n dX3_number_17 2 rfl ?_
  refine G_callV_I (m_Pa_of k0 hk0 _ M) cal_Pa_of ⟨Nat.le_of_ble_eq_true rfl, Nat.le_of_ble_eq_true rfl⟩ wd_506 hclX3 (Nat.lt_of_succ_lt hk0.1) hk0.2.1 [.int v2_1] rfl rfl rfl (Nat.le_of_ble_eq_true rfl) dX3_number_18 (fun r_1 => ?_)
  refine G_iadd dX3_number_21 ?_
  refine G_nmI (fun v1_2 => ?_)
  refine G_istore_n 1 rfl dX3_number_22 (by decide) (L' := [(1, .int v1_2), (0, .ref (ad k0)), (2, .int v2_1)]) rfl ?_
  refine G_iinc (v2_1 + 1) dX3_number_23 2 rfl rfl (by decide) (L' := [(2, .int (v2_1 + 1)), (1, .int v1_2), (0, .ref (ad k0))]) rfl ?_
  refine G_goto 4 dX3_number_26 (by decide) ?_
  refine G_sub [2, 1, 0] rfl ?_
  exact hag (v1_2, v2_1 + 1)

set_option maxRecDepth 100000 in
set_option maxHeartbeats 4000000 in
theorem m_Pa_number (k0 : Nat) (hk0 : isP k0) (M : Mem) : MC mi_Pa_number (φI M) (fun ad => [.ref (ad k0)]) M (Pa_number k0 M) := by
  refine MC_of rfl (by decide +kernel) (fun ad => [(0, .ref (ad k0))]) (fun _ => rfl) (fun _ => Nat.le_of_ble_eq_true rfl) (fun X ad => ?_)
  show G X ad mi_Pa_number (φI M) 0 [(0, .ref (ad k0))] [] M _
  unfold Pa_number
  refine G_iconst (v := 0) dX3_number_0 rfl ?_
  refine G_istore_n 1 rfl dX3_number_1 (by decide) (L' := [(1, .int 0), (0, .ref (ad k0))]) rfl ?_
  refine G_iconst (v := 0) dX3_number_2 rfl ?_
  refine G_istore_n 2 rfl dX3_number_3 (by decide) (L' := [(2, .int 0), (1, .int 0), (0, .ref (ad k0))]) rfl ?_
  refine G_sub [2, 1, 0] rfl ?_
  refine w_Pa_number_L4 X ad k0 hk0 M _ (fun v1_3 => ?_) _ _
  refine G_iload_n dX3_number_29 0 rfl ?_
  exact G_ireturn rfl rfl dX3_number_30 rfl

set_option maxRecDepth 100000 in
set_option maxHeartbeats 4000000 in
theorem w_Pa_copy_L18 (X : Cx) (ad : Nat → Nat) (k0 : Nat) (hk0 : isP k0) (k1 : Nat) (hk1 : isP k1) (kx : Mem → Option Mem) (hkx : ∀ (Me : Mem), G X ad mi_Pa_copy (φV) 45 [] [] Me (kx Me)) : ∀ (n : Nat) (s : Int32 × Mem), G X ad mi_Pa_copy (φV) 18 [(0, .ref (ad k0)), (1, .ref (ad k1)), (2, .int s.1)] [] s.2 (LOOP (fun aq sq => Pa_copy_L18 k0 k1 kx aq sq.1 sq.2) n s) := by
  refine LOOP_rule (fun (s : Int32 × Mem) o => G X ad mi_Pa_copy (φV) 18 [(0, .ref (ad k0)), (1, .ref (ad k1)), (2, .int s.1)] [] s.2 o) (fun _ => G_none) (fun ag hag s => ?_)
  obtain ⟨v2_1, M3⟩ := s
  show G X ad mi_Pa_copy (φV) 18 [(0, .ref (ad k0)), (1, .ref (ad k1)), (2, .int v2_1)] [] M3 (Pa_copy_L18 k0 k1 kx ag v2_1 M3)
  unfold Pa_copy_L18
  refine G_iload_n dX3_copy_18 2 rfl ?_
  refine G_aload_n dX3_copy_19 0 rfl ?_
  refine G_getI hclX3 (Nat.lt_of_succ_lt hk0.1) hk0.2.1 1 (by decide) rfl wd_285 dX3_copy_20 ?_
  refine G_icmp_ge 45 dX3_copy_23 (by decide) (fun _ => ?_) (fun _ => ?_)
  refine G_sub [] rfl ?_
  exact hkx M3
  refine G_aload_n dX3_copy_26 0 rfl ?_
  refine G_getR hclX3 (Nat.lt_of_succ_lt hk0.1) hk0.2.1 0 (by decide) rfl wd_284 dX3_copy_27 ?_
  refine G_iload_n dX3_copy_30 2 rfl ?_
  refine G_aload_n dX3_copy_31 1 rfl ?_
  refine G_iload_n dX3_copy_32 2 rfl ?_
  refine G_callV_I (m_Pa_of k1 hk1 _ M3) cal_Pa_of ⟨Nat.le_of_ble_eq_true rfl, Nat.le_of_ble_eq_true rfl⟩ wd_506 hclX3 (Nat.lt_of_succ_lt hk1.1) hk1.2.1 [.int v2_1] rfl rfl rfl (Nat.le_of_ble_eq_true rfl) dX3_copy_33 (fun r_1 => ?_)
  refine G_callSN_V (m_SP_put (k0 + 1) hk0.a _ _ M3) cal_SP_put ⟨Nat.le_of_ble_eq_true rfl, Nat.le_of_ble_eq_true rfl⟩ wn_505 rfl rfl (Nat.le_of_ble_eq_true rfl) dX3_copy_36 (fun M4 => ?_)
  refine G_iinc (v2_1 + 1) dX3_copy_39 2 rfl rfl (by decide) (L' := [(2, .int (v2_1 + 1)), (0, .ref (ad k0)), (1, .ref (ad k1))]) rfl ?_
  refine G_goto 18 dX3_copy_42 (by decide) ?_
  refine G_sub [1, 2, 0] rfl ?_
  exact hag (v2_1 + 1, M4)

set_option maxRecDepth 100000 in
set_option maxHeartbeats 4000000 in
theorem m_Pa_copy (k0 : Nat) (hk0 : isP k0) (k1 : Nat) (hk1 : isP k1) (M : Mem) : MC mi_Pa_copy (φV) (fun ad => [.ref (ad k0), .ref (ad k1)]) M (Pa_copy k0 k1 M) := by
  refine MC_of rfl (by decide +kernel) (fun ad => [(0, .ref (ad k0)), (1, .ref (ad k1))]) (fun _ => rfl) (fun _ => Nat.le_of_ble_eq_true rfl) (fun X ad => ?_)
  show G X ad mi_Pa_copy (φV) 0 [(0, .ref (ad k0)), (1, .ref (ad k1))] [] M _
  unfold Pa_copy
  refine G_aload_n dX3_copy_0 0 rfl ?_
  refine G_aload_n dX3_copy_1 1 rfl ?_
  refine G_getI hclX3 (Nat.lt_of_succ_lt hk1.1) hk1.2.1 1 (by decide) rfl wd_285 dX3_copy_2 ?_
  refine G_put hclX3 (Nat.lt_of_succ_lt hk0.1) hk0.2.1 1 (by decide) rfl rfl (by decide +kernel) wd_285 dX3_copy_5 (fun M1 => ?_)
  refine G_aload_n dX3_copy_8 0 rfl ?_
  refine G_aload_n dX3_copy_9 1 rfl ?_
  refine G_getI hclX3 (Nat.lt_of_succ_lt hk1.1) hk1.2.1 2 (by decide) rfl wd_287 dX3_copy_10 ?_
  refine G_put hclX3 (Nat.lt_of_succ_lt hk0.1) hk0.2.1 2 (by decide) rfl rfl (by decide +kernel) wd_287 dX3_copy_13 (fun M2 => ?_)
  refine G_iconst (v := 0) dX3_copy_16 rfl ?_
  refine G_istore_n 2 rfl dX3_copy_17 (by decide) (L' := [(2, .int 0), (0, .ref (ad k0)), (1, .ref (ad k1))]) rfl ?_
  refine G_sub [1, 2, 0] rfl ?_
  refine w_Pa_copy_L18 X ad k0 hk0 k1 hk1 _ (fun M5 => ?_) _ _
  exact G_return rfl rfl dX3_copy_45 rfl

set_option maxRecDepth 100000 in
set_option maxHeartbeats 4000000 in
theorem m_Pa_begin (k0 : Nat) (hk0 : isP k0) (v1 : Int32) (M : Mem) : MC mi_Pa_begin (φV) (fun ad => [.ref (ad k0), .int v1]) M (Pa_begin k0 v1 M) := by
  refine MC_of rfl (by decide +kernel) (fun ad => [(0, .ref (ad k0)), (1, .int v1)]) (fun _ => rfl) (fun _ => Nat.le_of_ble_eq_true rfl) (fun X ad => ?_)
  show G X ad mi_Pa_begin (φV) 0 [(0, .ref (ad k0)), (1, .int v1)] [] M _
  unfold Pa_begin
  refine G_aload_n dX3_begin_0 0 rfl ?_
  refine G_iload_n dX3_begin_1 1 rfl ?_
  refine G_put hclX3 (Nat.lt_of_succ_lt hk0.1) hk0.2.1 1 (by decide) rfl rfl (by decide +kernel) wd_285 dX3_begin_2 (fun M1 => ?_)
  refine G_aload_n dX3_begin_5 0 rfl ?_
  refine G_iconst (v := 0) dX3_begin_6 rfl ?_
  refine G_put hclX3 (Nat.lt_of_succ_lt hk0.1) hk0.2.1 2 (by decide) rfl rfl (by decide +kernel) wd_287 dX3_begin_7 (fun M2 => ?_)
  exact G_return rfl rfl dX3_begin_10 rfl

set_option maxRecDepth 100000 in
set_option maxHeartbeats 4000000 in
theorem m_Pa_place (k0 : Nat) (hk0 : isP k0) (v1 : Int32) (v2 : Int32) (M : Mem) : MC mi_Pa_place (φV) (fun ad => [.ref (ad k0), .int v1, .int v2]) M (Pa_place k0 v1 v2 M) := by
  refine MC_of rfl (by decide +kernel) (fun ad => [(0, .ref (ad k0)), (1, .int v1), (2, .int v2)]) (fun _ => rfl) (fun _ => Nat.le_of_ble_eq_true rfl) (fun X ad => ?_)
  show G X ad mi_Pa_place (φV) 0 [(0, .ref (ad k0)), (1, .int v1), (2, .int v2)] [] M _
  unfold Pa_place
  refine G_iload_n dX3_place_0 2 rfl ?_
  refine G_if_ge 29 dX3_place_1 (by decide) (fun _ => ?_) (fun _ => ?_)
  refine G_aload_n dX3_place_29 0 rfl ?_
  refine G_getR hclX3 (Nat.lt_of_succ_lt hk0.1) hk0.2.1 0 (by decide) rfl wd_284 dX3_place_30 ?_
  refine G_iload_n dX3_place_33 1 rfl ?_
  refine G_aload_n dX3_place_34 0 rfl ?_
  refine G_iload_n dX3_place_35 2 rfl ?_
  refine G_callV_I (m_Pa_of k0 hk0 _ M) cal_Pa_of ⟨Nat.le_of_ble_eq_true rfl, Nat.le_of_ble_eq_true rfl⟩ wd_506 hclX3 (Nat.lt_of_succ_lt hk0.1) hk0.2.1 [.int v2] rfl rfl rfl (Nat.le_of_ble_eq_true rfl) dX3_place_36 (fun r_1 => ?_)
  refine G_callSN_V (m_SP_put (k0 + 1) hk0.a _ _ M) cal_SP_put ⟨Nat.le_of_ble_eq_true rfl, Nat.le_of_ble_eq_true rfl⟩ wn_505 rfl rfl (Nat.le_of_ble_eq_true rfl) dX3_place_39 (fun M1 => ?_)
  exact G_return rfl rfl dX3_place_42 rfl
  refine G_aload_n dX3_place_4 0 rfl ?_
  refine G_getR hclX3 (Nat.lt_of_succ_lt hk0.1) hk0.2.1 0 (by decide) rfl wd_284 dX3_place_5 ?_
  refine G_iload_n dX3_place_8 1 rfl ?_
  refine G_aload_n dX3_place_9 0 rfl ?_
  refine G_getI hclX3 (Nat.lt_of_succ_lt hk0.1) hk0.2.1 2 (by decide) rfl wd_287 dX3_place_10 ?_
  refine G_callSN_V (m_SP_put (k0 + 1) hk0.a _ _ M) cal_SP_put ⟨Nat.le_of_ble_eq_true rfl, Nat.le_of_ble_eq_true rfl⟩ wn_505 rfl rfl (Nat.le_of_ble_eq_true rfl) dX3_place_13 (fun M2 => ?_)
  refine G_aload_n dX3_place_16 0 rfl ?_
  refine G_dup dX3_place_17 rfl ?_
  refine G_getI hclX3 (Nat.lt_of_succ_lt hk0.1) hk0.2.1 2 (by decide) rfl wd_287 dX3_place_18 ?_
  refine G_iconst (v := 1) dX3_place_21 rfl ?_
  refine G_iadd dX3_place_22 ?_
  refine G_put hclX3 (Nat.lt_of_succ_lt hk0.1) hk0.2.1 2 (by decide) rfl rfl (by decide +kernel) wd_287 dX3_place_23 (fun M3 => ?_)
  refine G_goto 42 dX3_place_26 (by decide) ?_
  exact G_return rfl rfl dX3_place_42 rfl

set_option maxRecDepth 100000 in
set_option maxHeartbeats 4000000 in
theorem w_Sa_split_L34 (X : Cx) (ad : Nat → Nat) (k2 : Nat) (hk2 : isP k2) (k3 : Nat) (hk3 : isP k3) (v4_2 : Int32) (v5_2 : Int32) (M3 : Mem) (kx : Int32 → Option Mem) (hkx : ∀ (e6 : Int32), G X ad mi_Sa_split (φV) 81 [(0, .ref (ad 14)), (1, .ref (ad 1)), (2, .ref (ad k2)), (3, .ref (ad k3)), (4, .int v4_2), (5, .int v5_2), (6, .int e6)] [] M3 (kx e6)) : ∀ (n : Nat) (s : Int32 × Int32), G X ad mi_Sa_split (φV) 34 [(0, .ref (ad 14)), (1, .ref (ad 1)), (2, .ref (ad k2)), (3, .ref (ad k3)), (4, .int v4_2), (5, .int v5_2), (6, .int s.1), (7, .int s.2)] [] M3 (LOOP (fun aq sq => Sa_split_L34 k2 v4_2 v5_2 M3 kx aq sq.1 sq.2) n s) := by
  refine LOOP_rule (fun (s : Int32 × Int32) o => G X ad mi_Sa_split (φV) 34 [(0, .ref (ad 14)), (1, .ref (ad 1)), (2, .ref (ad k2)), (3, .ref (ad k3)), (4, .int v4_2), (5, .int v5_2), (6, .int s.1), (7, .int s.2)] [] M3 o) (fun _ => G_none) (fun ag hag s => ?_)
  obtain ⟨v6_1, v7_1⟩ := s
  show G X ad mi_Sa_split (φV) 34 [(0, .ref (ad 14)), (1, .ref (ad 1)), (2, .ref (ad k2)), (3, .ref (ad k3)), (4, .int v4_2), (5, .int v5_2), (6, .int v6_1), (7, .int v7_1)] [] M3 (Sa_split_L34 k2 v4_2 v5_2 M3 kx ag v6_1 v7_1)
  unfold Sa_split_L34
  refine G_iload dX4_split_34 7 rfl ?_
  refine G_iload dX4_split_36 5 rfl ?_
  refine G_icmp_ge 81 dX4_split_38 (by decide) (fun _ => ?_) (fun _ => ?_)
  refine G_sub [0, 1, 2, 3, 4, 5, 6] rfl ?_
  exact hkx v6_1
  refine G_iload dX4_split_41 6 rfl ?_
  refine G_if_ge 81 dX4_split_43 (by decide) (fun _ => ?_) (fun _ => ?_)
  refine G_sub [0, 1, 2, 3, 4, 5, 6] rfl ?_
  exact hkx v6_1
  refine G_aload_n dX4_split_46 2 rfl ?_
  refine G_iload dX4_split_47 5 rfl ?_
  refine G_iload dX4_split_49 7 rfl ?_
  refine G_callVN_I (m_Pa_together k2 hk2 _ _ M3) cal_Pa_together ⟨Nat.le_of_ble_eq_true rfl, Nat.le_of_ble_eq_true rfl⟩ wn_538 hclX3 (Nat.lt_of_succ_lt hk2.1) hk2.2.1 [.int v5_2, .int v7_1] rfl rfl rfl (Nat.le_of_ble_eq_true rfl) dX4_split_51 (fun r_1 => ?_)
  refine G_if_eq 75 dX4_split_54 (by decide) (fun _ => ?_) (fun _ => ?_)
  refine G_iinc (v7_1 + 1) dX4_split_75 7 rfl rfl (by decide) (L' := [(7, .int (v7_1 + 1)), (0, .ref (ad 14)), (1, .ref (ad 1)), (2, .ref (ad k2)), (3, .ref (ad k3)), (4, .int v4_2), (5, .int v5_2), (6, .int v6_1)]) rfl ?_
  refine G_goto 34 dX4_split_78 (by decide) ?_
  refine G_sub [1, 2, 3, 4, 5, 6, 7, 0] rfl ?_
  exact hag (v6_1, v7_1 + 1)
  refine G_aload_n dX4_split_57 0 rfl ?_
  refine G_aload_n dX4_split_58 1 rfl ?_
  refine G_iload dX4_split_59 4 rfl ?_
  refine G_iload dX4_split_61 7 rfl ?_
  refine G_iload dX4_split_63 5 rfl ?_
  refine G_callV_I (m_Sa_alike _ _ _ M3) cal_Sa_alike ⟨Nat.le_of_ble_eq_true rfl, Nat.le_of_ble_eq_true rfl⟩ wd_542 hclX4 (by decide) rfl [.ref (ad 1), .int v4_2, .int v7_1, .int v5_2] rfl rfl rfl (Nat.le_of_ble_eq_true rfl) dX4_split_65 (fun r_2 => ?_)
  refine G_if_eq 75 dX4_split_68 (by decide) (fun _ => ?_) (fun _ => ?_)
  refine G_iinc (v7_1 + 1) dX4_split_75 7 rfl rfl (by decide) (L' := [(7, .int (v7_1 + 1)), (0, .ref (ad 14)), (1, .ref (ad 1)), (2, .ref (ad k2)), (3, .ref (ad k3)), (4, .int v4_2), (5, .int v5_2), (6, .int v6_1)]) rfl ?_
  refine G_goto 34 dX4_split_78 (by decide) ?_
  refine G_sub [1, 2, 3, 4, 5, 6, 7, 0] rfl ?_
  exact hag (v6_1, v7_1 + 1)
  refine G_iload dX4_split_71 7 rfl ?_
  refine G_istore dX4_split_73 (by decide) (L' := [(6, .int v7_1), (0, .ref (ad 14)), (1, .ref (ad 1)), (2, .ref (ad k2)), (3, .ref (ad k3)), (4, .int v4_2), (5, .int v5_2), (7, .int v7_1)]) rfl ?_
  refine G_iinc (v7_1 + 1) dX4_split_75 7 rfl rfl (by decide) (L' := [(7, .int (v7_1 + 1)), (6, .int v7_1), (0, .ref (ad 14)), (1, .ref (ad 1)), (2, .ref (ad k2)), (3, .ref (ad k3)), (4, .int v4_2), (5, .int v5_2)]) rfl ?_
  refine G_goto 34 dX4_split_78 (by decide) ?_
  refine G_sub [2, 3, 4, 5, 6, 7, 1, 0] rfl ?_
  exact hag (v7_1, v7_1 + 1)

set_option maxRecDepth 100000 in
set_option maxHeartbeats 4000000 in
theorem w_Sa_split_L19 (X : Cx) (ad : Nat → Nat) (k2 : Nat) (hk2 : isP k2) (k3 : Nat) (hk3 : isP k3) (v4_1 : Int32) (kx : Mem → Option Mem) (hkx : ∀ (Me : Mem), G X ad mi_Sa_split (φV) 95 [] [] Me (kx Me)) : ∀ (n : Nat) (s : Int32 × Mem), G X ad mi_Sa_split (φV) 19 [(0, .ref (ad 14)), (1, .ref (ad 1)), (2, .ref (ad k2)), (3, .ref (ad k3)), (4, .int v4_1), (5, .int s.1)] [] s.2 (LOOP (fun aq sq => Sa_split_L19 k2 k3 v4_1 kx aq sq.1 sq.2) n s) := by
  refine LOOP_rule (fun (s : Int32 × Mem) o => G X ad mi_Sa_split (φV) 19 [(0, .ref (ad 14)), (1, .ref (ad 1)), (2, .ref (ad k2)), (3, .ref (ad k3)), (4, .int v4_1), (5, .int s.1)] [] s.2 o) (fun _ => G_none) (fun ag hag s => ?_)
  obtain ⟨v5_1, M3⟩ := s
  show G X ad mi_Sa_split (φV) 19 [(0, .ref (ad 14)), (1, .ref (ad 1)), (2, .ref (ad k2)), (3, .ref (ad k3)), (4, .int v4_1), (5, .int v5_1)] [] M3 (Sa_split_L19 k2 k3 v4_1 kx ag v5_1 M3)
  unfold Sa_split_L19
  refine G_iload dX4_split_19 5 rfl ?_
  refine G_aload_n dX4_split_21 1 rfl ?_
  refine G_getIN hclX7 (by decide) rfl 2 (by decide) rfl wn_146 dX4_split_22 ?_
  refine G_icmp_ge 95 dX4_split_25 (by decide) (fun _ => ?_) (fun _ => ?_)
  refine G_sub [] rfl ?_
  exact hkx M3
  refine G_iconst (v := -1) dX4_split_28 rfl ?_
  refine G_istore dX4_split_29 (by decide) (L' := [(6, .int (-1)), (0, .ref (ad 14)), (1, .ref (ad 1)), (2, .ref (ad k2)), (3, .ref (ad k3)), (4, .int v4_1), (5, .int v5_1)]) rfl ?_
  refine G_iconst (v := 0) dX4_split_31 rfl ?_
  refine G_istore dX4_split_32 (by decide) (L' := [(7, .int 0), (6, .int (-1)), (0, .ref (ad 14)), (1, .ref (ad 1)), (2, .ref (ad k2)), (3, .ref (ad k3)), (4, .int v4_1), (5, .int v5_1)]) rfl ?_
  refine G_sub [2, 3, 4, 5, 6, 7, 1, 0] rfl ?_
  refine w_Sa_split_L34 X ad k2 hk2 k3 hk3 v4_1 v5_1 M3 _ (fun v6_2 => ?_) _ _
  refine G_aload_n dX4_split_81 3 rfl ?_
  refine G_iload dX4_split_82 5 rfl ?_
  refine G_iload dX4_split_84 6 rfl ?_
  refine G_callVN_V (m_Pa_place k3 hk3 _ _ M3) cal_Pa_place ⟨Nat.le_of_ble_eq_true rfl, Nat.le_of_ble_eq_true rfl⟩ wn_578 hclX3 (Nat.lt_of_succ_lt hk3.1) hk3.2.1 [.int v5_1, .int v6_2] rfl rfl rfl (Nat.le_of_ble_eq_true rfl) dX4_split_86 (fun M4 => ?_)
  refine G_iinc (v5_1 + 1) dX4_split_89 5 rfl rfl (by decide) (L' := [(5, .int (v5_1 + 1)), (0, .ref (ad 14)), (1, .ref (ad 1)), (2, .ref (ad k2)), (3, .ref (ad k3)), (4, .int v4_1), (6, .int v6_2)]) rfl ?_
  refine G_goto 19 dX4_split_92 (by decide) ?_
  refine G_sub [1, 2, 3, 4, 5, 0] rfl ?_
  exact hag (v5_1 + 1, M4)

set_option maxRecDepth 100000 in
set_option maxHeartbeats 4000000 in
theorem m_Sa_split (k2 : Nat) (hk2 : isP k2) (k3 : Nat) (hk3 : isP k3) (v4 : Int32) (M : Mem) : MC mi_Sa_split (φV) (fun ad => [.ref (ad 14), .ref (ad 1), .ref (ad k2), .ref (ad k3), .int v4]) M (Sa_split k2 k3 v4 M) := by
  refine MC_of rfl (by decide +kernel) (fun ad => [(0, .ref (ad 14)), (1, .ref (ad 1)), (2, .ref (ad k2)), (3, .ref (ad k3)), (4, .int v4)]) (fun _ => rfl) (fun _ => Nat.le_of_ble_eq_true rfl) (fun X ad => ?_)
  show G X ad mi_Sa_split (φV) 0 [(0, .ref (ad 14)), (1, .ref (ad 1)), (2, .ref (ad k2)), (3, .ref (ad k3)), (4, .int v4)] [] M _
  unfold Sa_split
  refine G_aload_n dX4_split_0 0 rfl ?_
  refine G_aload_n dX4_split_1 1 rfl ?_
  refine G_aload_n dX4_split_2 2 rfl ?_
  refine G_iload dX4_split_3 4 rfl ?_
  refine G_callV_V (m_Sa_look k2 hk2 _ M) cal_Sa_look ⟨Nat.le_of_ble_eq_true rfl, Nat.le_of_ble_eq_true rfl⟩ wd_525 hclX4 (by decide) rfl [.ref (ad 1), .ref (ad k2), .int v4] rfl rfl rfl (Nat.le_of_ble_eq_true rfl) dX4_split_5 (fun M1 => ?_)
  refine G_aload_n dX4_split_8 3 rfl ?_
  refine G_aload_n dX4_split_9 1 rfl ?_
  refine G_getIN hclX7 (by decide) rfl 2 (by decide) rfl wn_146 dX4_split_10 ?_
  refine G_callVN_V (m_Pa_begin k3 hk3 _ M1) cal_Pa_begin ⟨Nat.le_of_ble_eq_true rfl, Nat.le_of_ble_eq_true rfl⟩ wn_574 hclX3 (Nat.lt_of_succ_lt hk3.1) hk3.2.1 [.int (M1 1 2)] rfl rfl rfl (Nat.le_of_ble_eq_true rfl) dX4_split_13 (fun M2 => ?_)
  refine G_iconst (v := 0) dX4_split_16 rfl ?_
  refine G_istore dX4_split_17 (by decide) (L' := [(5, .int 0), (0, .ref (ad 14)), (1, .ref (ad 1)), (2, .ref (ad k2)), (3, .ref (ad k3)), (4, .int v4)]) rfl ?_
  refine G_sub [1, 2, 3, 4, 5, 0] rfl ?_
  refine w_Sa_split_L19 X ad k2 hk2 k3 hk3 v4 _ (fun M5 => ?_) _ _
  exact G_return rfl rfl dX4_split_95 rfl

set_option maxRecDepth 100000 in
set_option maxHeartbeats 4000000 in
theorem w_Sa_refine_L3 (X : Cx) (ad : Nat → Nat) (k2 : Nat) (hk2 : isP k2) (k3 : Nat) (hk3 : isP k3) (v4_1 : Int32) (kx : Mem → Option Mem) (hkx : ∀ (Me : Mem), G X ad mi_Sa_refine (φV) 42 [] [] Me (kx Me)) : ∀ (n : Nat) (s : Int32 × Mem), G X ad mi_Sa_refine (φV) 3 [(0, .ref (ad 14)), (1, .ref (ad 1)), (2, .ref (ad k2)), (3, .ref (ad k3)), (4, .int v4_1), (5, .int s.1)] [] s.2 (LOOP (fun aq sq => Sa_refine_L3 k2 k3 v4_1 kx aq sq.1 sq.2) n s) := by
  refine LOOP_rule (fun (s : Int32 × Mem) o => G X ad mi_Sa_refine (φV) 3 [(0, .ref (ad 14)), (1, .ref (ad 1)), (2, .ref (ad k2)), (3, .ref (ad k3)), (4, .int v4_1), (5, .int s.1)] [] s.2 o) (fun _ => G_none) (fun ag hag s => ?_)
  obtain ⟨v5_1, M1⟩ := s
  show G X ad mi_Sa_refine (φV) 3 [(0, .ref (ad 14)), (1, .ref (ad 1)), (2, .ref (ad k2)), (3, .ref (ad k3)), (4, .int v4_1), (5, .int v5_1)] [] M1 (Sa_refine_L3 k2 k3 v4_1 kx ag v5_1 M1)
  unfold Sa_refine_L3
  refine G_iload dX4_refine_3 5 rfl ?_
  refine G_bipush (v := 7) dX4_refine_5 rfl ?_
  refine G_icmp_ge 42 dX4_refine_7 (by decide) (fun _ => ?_) (fun _ => ?_)
  refine G_sub [] rfl ?_
  exact hkx M1
  refine G_aload_n dX4_refine_10 0 rfl ?_
  refine G_aload_n dX4_refine_11 1 rfl ?_
  refine G_aload_n dX4_refine_12 2 rfl ?_
  refine G_aload_n dX4_refine_13 3 rfl ?_
  refine G_iload dX4_refine_14 4 rfl ?_
  refine G_callV_V (m_Sa_split k2 hk2 k3 hk3 _ M1) cal_Sa_split ⟨Nat.le_of_ble_eq_true rfl, Nat.le_of_ble_eq_true rfl⟩ wd_570 hclX4 (by decide) rfl [.ref (ad 1), .ref (ad k2), .ref (ad k3), .int v4_1] rfl rfl rfl (Nat.le_of_ble_eq_true rfl) dX4_refine_16 (fun M2 => ?_)
  refine G_aload_n dX4_refine_19 3 rfl ?_
  refine G_getIN hclX3 (Nat.lt_of_succ_lt hk3.1) hk3.2.1 2 (by decide) rfl wn_291 dX4_refine_20 ?_
  refine G_aload_n dX4_refine_23 2 rfl ?_
  refine G_getIN hclX3 (Nat.lt_of_succ_lt hk2.1) hk2.2.1 2 (by decide) rfl wn_291 dX4_refine_24 ?_
  refine G_icmp_ne 31 dX4_refine_27 (by decide) (fun _ => ?_) (fun _ => ?_)
  exact G_return rfl rfl dX4_refine_30 rfl
  refine G_aload_n dX4_refine_31 2 rfl ?_
  refine G_aload_n dX4_refine_32 3 rfl ?_
  refine G_callVN_V (m_Pa_copy k2 hk2 k3 hk3 M2) cal_Pa_copy ⟨Nat.le_of_ble_eq_true rfl, Nat.le_of_ble_eq_true rfl⟩ wn_582 hclX3 (Nat.lt_of_succ_lt hk2.1) hk2.2.1 [.ref (ad k3)] rfl rfl rfl (Nat.le_of_ble_eq_true rfl) dX4_refine_33 (fun M3 => ?_)
  refine G_iinc (v5_1 + 1) dX4_refine_36 5 rfl rfl (by decide) (L' := [(5, .int (v5_1 + 1)), (0, .ref (ad 14)), (1, .ref (ad 1)), (2, .ref (ad k2)), (3, .ref (ad k3)), (4, .int v4_1)]) rfl ?_
  refine G_goto 3 dX4_refine_39 (by decide) ?_
  refine G_sub [1, 2, 3, 4, 5, 0] rfl ?_
  exact hag (v5_1 + 1, M3)

set_option maxRecDepth 100000 in
set_option maxHeartbeats 4000000 in
theorem m_Sa_refine (k2 : Nat) (hk2 : isP k2) (k3 : Nat) (hk3 : isP k3) (v4 : Int32) (M : Mem) : MC mi_Sa_refine (φV) (fun ad => [.ref (ad 14), .ref (ad 1), .ref (ad k2), .ref (ad k3), .int v4]) M (Sa_refine k2 k3 v4 M) := by
  refine MC_of rfl (by decide +kernel) (fun ad => [(0, .ref (ad 14)), (1, .ref (ad 1)), (2, .ref (ad k2)), (3, .ref (ad k3)), (4, .int v4)]) (fun _ => rfl) (fun _ => Nat.le_of_ble_eq_true rfl) (fun X ad => ?_)
  show G X ad mi_Sa_refine (φV) 0 [(0, .ref (ad 14)), (1, .ref (ad 1)), (2, .ref (ad k2)), (3, .ref (ad k3)), (4, .int v4)] [] M _
  unfold Sa_refine
  refine G_iconst (v := 0) dX4_refine_0 rfl ?_
  refine G_istore dX4_refine_1 (by decide) (L' := [(5, .int 0), (0, .ref (ad 14)), (1, .ref (ad 1)), (2, .ref (ad k2)), (3, .ref (ad k3)), (4, .int v4)]) rfl ?_
  refine G_sub [1, 2, 3, 4, 5, 0] rfl ?_
  refine w_Sa_refine_L3 X ad k2 hk2 k3 hk3 v4 _ (fun M4 => ?_) _ _
  exact G_return rfl rfl dX4_refine_42 rfl

set_option maxRecDepth 100000 in
set_option maxHeartbeats 4000000 in
theorem m_SP_coarsest (v1 : Int32) (v2 : Int32) (M : Mem) : MC mi_SP_coarsest (φIM) (fun ad => [.ref (ad 0), .int v1, .int v2]) M (SP_coarsest v1 v2 M) := by
  refine MC_of rfl (by decide +kernel) (fun ad => [(0, .ref (ad 0)), (1, .int v1), (2, .int v2)]) (fun _ => rfl) (fun _ => Nat.le_of_ble_eq_true rfl) (fun X ad => ?_)
  show G X ad mi_SP_coarsest (φIM) 0 [(0, .ref (ad 0)), (1, .int v1), (2, .int v2)] [] M _
  unfold SP_coarsest
  refine G_aload_n dX9_coarsest_0 0 rfl ?_
  refine G_getR hclX9 (by decide) rfl 8 (by decide) rfl wd_315 dX9_coarsest_1 ?_
  refine G_iload_n dX9_coarsest_4 1 rfl ?_
  refine G_aload_n dX9_coarsest_5 0 rfl ?_
  refine G_getR hclX9 (by decide) rfl 0 (by decide) rfl wd_307 dX9_coarsest_6 ?_
  refine G_getIN hclX7 (by decide) rfl 2 (by decide) rfl wn_147 dX9_coarsest_9 ?_
  refine G_callVN_IM (m_Pa_readNumber 26 isP_26 _ _ M) cal_Pa_readNumber ⟨Nat.le_of_ble_eq_true rfl, Nat.le_of_ble_eq_true rfl⟩ wn_501 hclX3 (by decide) rfl [.int v1, .int (M 1 2)] rfl rfl rfl (Nat.le_of_ble_eq_true rfl) dX9_coarsest_12 (fun r_1 M1 => ?_)
  refine G_jp (fun kq => G X ad mi_SP_coarsest (φIM) 25 [(0, .ref (ad 0))] [] M1 (kq)) ?_ (fun k_1 hk_1 => ?_)
  refine G_aload_n dX9_coarsest_25 0 rfl ?_
  refine G_iconst (v := -1) dX9_coarsest_26 rfl ?_
  refine G_callV_IM (m_SP_refuse _ M1) cal_SP_refuse ⟨Nat.le_of_ble_eq_true rfl, Nat.le_of_ble_eq_true rfl⟩ wd_351 hclX9 (by decide) rfl [.int (-1)] rfl rfl rfl (Nat.le_of_ble_eq_true rfl) dX9_coarsest_27 (fun r_2 M2 => ?_)
  exact G_ireturn rfl rfl dX9_coarsest_30 rfl
  refine G_if_eq 25 dX9_coarsest_15 (by decide) (fun _ => ?_) (fun _ => ?_)
  refine G_sub [0] rfl ?_
  exact hk_1
  refine G_iload_n dX9_coarsest_18 2 rfl ?_
  refine G_callS_I (m_SP_isSameness _ M1) cal_SP_isSameness ⟨Nat.le_of_ble_eq_true rfl, Nat.le_of_ble_eq_true rfl⟩ wd_518 rfl rfl (Nat.le_of_ble_eq_true rfl) dX9_coarsest_19 (fun r_3 => ?_)
  refine G_if_ne 31 dX9_coarsest_22 (by decide) (fun _ => ?_) (fun _ => ?_)
  refine G_sub [0] rfl ?_
  exact hk_1
  refine G_aload_n dX9_coarsest_31 0 rfl ?_
  refine G_aload_n dX9_coarsest_32 0 rfl ?_
  refine G_getI hclX9 (by decide) rfl 12 (by decide) rfl wd_319 dX9_coarsest_33 ?_
  refine G_callV_V (m_SP_lookAt _ M1) cal_SP_lookAt ⟨Nat.le_of_ble_eq_true rfl, Nat.le_of_ble_eq_true rfl⟩ wd_468 hclX9 (by decide) rfl [.int (M1 0 12)] rfl rfl rfl (Nat.le_of_ble_eq_true rfl) dX9_coarsest_36 (fun M3 => ?_)
  refine G_aload_n dX9_coarsest_39 0 rfl ?_
  refine G_getR hclX9 (by decide) rfl 4 (by decide) rfl wd_311 dX9_coarsest_40 ?_
  refine G_aload_n dX9_coarsest_43 0 rfl ?_
  refine G_getR hclX9 (by decide) rfl 0 (by decide) rfl wd_307 dX9_coarsest_44 ?_
  refine G_aload_n dX9_coarsest_47 0 rfl ?_
  refine G_getR hclX9 (by decide) rfl 8 (by decide) rfl wd_315 dX9_coarsest_48 ?_
  refine G_aload_n dX9_coarsest_51 0 rfl ?_
  refine G_getR hclX9 (by decide) rfl 9 (by decide) rfl wd_316 dX9_coarsest_52 ?_
  refine G_iload_n dX9_coarsest_55 2 rfl ?_
  refine G_callVN_V (m_Sa_refine 26 isP_26 28 isP_28 _ M3) cal_Sa_refine ⟨Nat.le_of_ble_eq_true rfl, Nat.le_of_ble_eq_true rfl⟩ wn_566 hclX4 (by decide) rfl [.ref (ad 1), .ref (ad 26), .ref (ad 28), .int v2] rfl rfl rfl (Nat.le_of_ble_eq_true rfl) dX9_coarsest_56 (fun M4 => ?_)
  refine G_aload_n dX9_coarsest_59 0 rfl ?_
  refine G_getR hclX9 (by decide) rfl 8 (by decide) rfl wd_315 dX9_coarsest_60 ?_
  refine G_callVN_I (m_Pa_number 26 isP_26 M4) cal_Pa_number ⟨Nat.le_of_ble_eq_true rfl, Nat.le_of_ble_eq_true rfl⟩ wn_586 hclX3 (by decide) rfl [] rfl rfl rfl (Nat.le_of_ble_eq_true rfl) dX9_coarsest_63 (fun r_4 => ?_)
  exact G_ireturn rfl rfl dX9_coarsest_66 rfl

set_option maxRecDepth 100000 in
set_option maxHeartbeats 4000000 in
theorem m_Tu_begin (M : Mem) : MC mi_Tu_begin (φV) (fun ad => [.ref (ad 16)]) M (Tu_begin M) := by
  refine MC_of rfl (by decide +kernel) (fun ad => [(0, .ref (ad 16))]) (fun _ => rfl) (fun _ => Nat.le_of_ble_eq_true rfl) (fun X ad => ?_)
  show G X ad mi_Tu_begin (φV) 0 [(0, .ref (ad 16))] [] M _
  unfold Tu_begin
  refine G_aload_n dX8_begin_0 0 rfl ?_
  refine G_iconst (v := 0) dX8_begin_1 rfl ?_
  refine G_put hclX8 (by decide) rfl 3 (by decide) rfl rfl (by decide +kernel) wd_239 dX8_begin_2 (fun M1 => ?_)
  refine G_aload_n dX8_begin_5 0 rfl ?_
  refine G_iconst (v := 0) dX8_begin_6 rfl ?_
  refine G_put hclX8 (by decide) rfl 4 (by decide) rfl rfl (by decide +kernel) wd_240 dX8_begin_7 (fun M2 => ?_)
  refine G_aload_n dX8_begin_10 0 rfl ?_
  refine G_getR hclX8 (by decide) rfl 0 (by decide) rfl wd_236 dX8_begin_11 ?_
  refine G_iconst (v := 0) dX8_begin_14 rfl ?_
  refine G_iconst (v := -1) dX8_begin_15 rfl ?_
  refine G_callSN_V (m_SP_put 17 isA_17 _ _ M2) cal_SP_put ⟨Nat.le_of_ble_eq_true rfl, Nat.le_of_ble_eq_true rfl⟩ wn_607 rfl rfl (Nat.le_of_ble_eq_true rfl) dX8_begin_16 (fun M3 => ?_)
  exact G_return rfl rfl dX8_begin_19 rfl

set_option maxRecDepth 100000 in
set_option maxHeartbeats 4000000 in
theorem m_SP_holds (v0 : Int32) (v1 : Int32) (M : Mem) : MC mi_SP_holds (φI M) (fun ad => [.int v0, .int v1]) M (SP_holds v0 v1) := by
  refine MC_of rfl (by decide +kernel) (fun ad => [(0, .int v0), (1, .int v1)]) (fun _ => rfl) (fun _ => Nat.le_of_ble_eq_true rfl) (fun X ad => ?_)
  show G X ad mi_SP_holds (φI M) 0 [(0, .int v0), (1, .int v1)] [] M _
  unfold SP_holds
  refine G_iload_n dX9_holds_0 0 rfl ?_
  refine G_iload_n dX9_holds_1 1 rfl ?_
  refine G_ishr dX9_holds_2 ?_
  refine G_iconst (v := 1) dX9_holds_3 rfl ?_
  refine G_iand dX9_holds_4 ?_
  refine G_if_eq 12 dX9_holds_5 (by decide) (fun _ => ?_) (fun _ => ?_)
  refine G_iconst (v := 0) dX9_holds_12 rfl ?_
  exact G_zreturn rfl rfl dX9_holds_13 rfl
  refine G_iconst (v := 1) dX9_holds_8 rfl ?_
  refine G_goto 13 dX9_holds_9 (by decide) ?_
  exact G_zreturn rfl rfl dX9_holds_13 rfl

set_option maxRecDepth 100000 in
set_option maxHeartbeats 4000000 in
theorem w_Tu_keeps_L3 (X : Cx) (ad : Nat → Nat) (v1_1 : Int32) (v2_1 : Int32) (v3_1 : Int32) (v4_1 : Int32) (M : Mem) (kx : Option Int32) (hkx : G X ad mi_Tu_keeps (φI M) 57 [] [] M (kx)) : ∀ (n : Nat) (s : Int32), G X ad mi_Tu_keeps (φI M) 3 [(0, .ref (ad 1)), (1, .int v1_1), (2, .int v2_1), (3, .int v3_1), (4, .int v4_1), (5, .int s)] [] M (LOOP (fun aq sq => Tu_keeps_L3 v1_1 v2_1 v3_1 v4_1 M kx aq sq) n s) := by
  refine LOOP_rule (fun (s : Int32) o => G X ad mi_Tu_keeps (φI M) 3 [(0, .ref (ad 1)), (1, .int v1_1), (2, .int v2_1), (3, .int v3_1), (4, .int v4_1), (5, .int s)] [] M o) (fun _ => G_none) (fun ag hag v5_1 => ?_)
  show G X ad mi_Tu_keeps (φI M) 3 [(0, .ref (ad 1)), (1, .int v1_1), (2, .int v2_1), (3, .int v3_1), (4, .int v4_1), (5, .int v5_1)] [] M (Tu_keeps_L3 v1_1 v2_1 v3_1 v4_1 M kx ag v5_1)
  unfold Tu_keeps_L3
  refine G_iload dX8_keeps_3 5 rfl ?_
  refine G_iconst (v := 3) dX8_keeps_5 rfl ?_
  refine G_icmp_ge 57 dX8_keeps_6 (by decide) (fun _ => ?_) (fun _ => ?_)
  refine G_sub [] rfl ?_
  exact hkx
  refine G_aload_n dX8_keeps_9 0 rfl ?_
  refine G_iload dX8_keeps_10 5 rfl ?_
  refine G_iload_n dX8_keeps_12 1 rfl ?_
  refine G_iload_n dX8_keeps_13 2 rfl ?_
  refine G_callVN_I (m_To_strength _ _ _ M) cal_To_strength ⟨Nat.le_of_ble_eq_true rfl, Nat.le_of_ble_eq_true rfl⟩ wn_628 hclX7 (by decide) rfl [.int v5_1, .int v1_1, .int v2_1] rfl rfl rfl (Nat.le_of_ble_eq_true rfl) dX8_keeps_14 (fun r_1 => ?_)
  refine G_aload_n dX8_keeps_17 0 rfl ?_
  refine G_iload dX8_keeps_18 5 rfl ?_
  refine G_iload_n dX8_keeps_20 3 rfl ?_
  refine G_iload dX8_keeps_21 4 rfl ?_
  refine G_callVN_I (m_To_strength _ _ _ M) cal_To_strength ⟨Nat.le_of_ble_eq_true rfl, Nat.le_of_ble_eq_true rfl⟩ wn_628 hclX7 (by decide) rfl [.int v5_1, .int v3_1, .int v4_1] rfl rfl rfl (Nat.le_of_ble_eq_true rfl) dX8_keeps_23 (fun r_2 => ?_)
  refine G_icmp_ne 49 dX8_keeps_26 (by decide) (fun _ => ?_) (fun _ => ?_)
  refine G_aload_n dX8_keeps_29 0 rfl ?_
  refine G_iload dX8_keeps_30 5 rfl ?_
  refine G_iload_n dX8_keeps_32 2 rfl ?_
  refine G_iload_n dX8_keeps_33 1 rfl ?_
  refine G_callVN_I (m_To_strength _ _ _ M) cal_To_strength ⟨Nat.le_of_ble_eq_true rfl, Nat.le_of_ble_eq_true rfl⟩ wn_628 hclX7 (by decide) rfl [.int v5_1, .int v2_1, .int v1_1] rfl rfl rfl (Nat.le_of_ble_eq_true rfl) dX8_keeps_34 (fun r_3 => ?_)
  refine G_aload_n dX8_keeps_37 0 rfl ?_
  refine G_iload dX8_keeps_38 5 rfl ?_
  refine G_iload dX8_keeps_40 4 rfl ?_
  refine G_iload_n dX8_keeps_42 3 rfl ?_
  refine G_callVN_I (m_To_strength _ _ _ M) cal_To_strength ⟨Nat.le_of_ble_eq_true rfl, Nat.le_of_ble_eq_true rfl⟩ wn_628 hclX7 (by decide) rfl [.int v5_1, .int v4_1, .int v3_1] rfl rfl rfl (Nat.le_of_ble_eq_true rfl) dX8_keeps_43 (fun r_4 => ?_)
  refine G_icmp_eq 51 dX8_keeps_46 (by decide) (fun _ => ?_) (fun _ => ?_)
  refine G_iinc (v5_1 + 1) dX8_keeps_51 5 rfl rfl (by decide) (L' := [(5, .int (v5_1 + 1)), (0, .ref (ad 1)), (1, .int v1_1), (2, .int v2_1), (3, .int v3_1), (4, .int v4_1)]) rfl ?_
  refine G_goto 3 dX8_keeps_54 (by decide) ?_
  refine G_sub [1, 2, 3, 4, 5, 0] rfl ?_
  exact hag (v5_1 + 1)
  refine G_iconst (v := 0) dX8_keeps_49 rfl ?_
  exact G_zreturn rfl rfl dX8_keeps_50 rfl
  refine G_iconst (v := 0) dX8_keeps_49 rfl ?_
  exact G_zreturn rfl rfl dX8_keeps_50 rfl

set_option maxRecDepth 100000 in
set_option maxHeartbeats 4000000 in
theorem m_Tu_keeps (v1 : Int32) (v2 : Int32) (v3 : Int32) (v4 : Int32) (M : Mem) : MC mi_Tu_keeps (φI M) (fun ad => [.ref (ad 1), .int v1, .int v2, .int v3, .int v4]) M (Tu_keeps v1 v2 v3 v4 M) := by
  refine MC_of rfl (by decide +kernel) (fun ad => [(0, .ref (ad 1)), (1, .int v1), (2, .int v2), (3, .int v3), (4, .int v4)]) (fun _ => rfl) (fun _ => Nat.le_of_ble_eq_true rfl) (fun X ad => ?_)
  show G X ad mi_Tu_keeps (φI M) 0 [(0, .ref (ad 1)), (1, .int v1), (2, .int v2), (3, .int v3), (4, .int v4)] [] M _
  unfold Tu_keeps
  refine G_iconst (v := 0) dX8_keeps_0 rfl ?_
  refine G_istore dX8_keeps_1 (by decide) (L' := [(5, .int 0), (0, .ref (ad 1)), (1, .int v1), (2, .int v2), (3, .int v3), (4, .int v4)]) rfl ?_
  refine G_sub [1, 2, 3, 4, 5, 0] rfl ?_
  refine w_Tu_keeps_L3 X ad v1 v2 v3 v4 M _ ?_ _ _
  refine G_iconst (v := 1) dX8_keeps_57 rfl ?_
  exact G_zreturn rfl rfl dX8_keeps_58 rfl

set_option maxRecDepth 100000 in
set_option maxHeartbeats 4000000 in
theorem w_Tu_keepsAhead_L16 (X : Cx) (ad : Nat → Nat) (v2_1 : Int32) (M : Mem) (kx : Option Int32) (hkx : G X ad mi_Tu_keepsAhead (φI M) 53 [] [] M (kx)) : ∀ (n : Nat) (s : Int32), G X ad mi_Tu_keepsAhead (φI M) 16 [(0, .ref (ad 16)), (1, .ref (ad 1)), (2, .int v2_1), (3, .int s)] [] M (LOOP (fun aq sq => Tu_keepsAhead_L16 v2_1 M kx aq sq) n s) := by
  refine LOOP_rule (fun (s : Int32) o => G X ad mi_Tu_keepsAhead (φI M) 16 [(0, .ref (ad 16)), (1, .ref (ad 1)), (2, .int v2_1), (3, .int s)] [] M o) (fun _ => G_none) (fun ag hag v3_1 => ?_)
  show G X ad mi_Tu_keepsAhead (φI M) 16 [(0, .ref (ad 16)), (1, .ref (ad 1)), (2, .int v2_1), (3, .int v3_1)] [] M (Tu_keepsAhead_L16 v2_1 M kx ag v3_1)
  unfold Tu_keepsAhead_L16
  refine G_iload_n dX8_keepsAhead_16 3 rfl ?_
  refine G_aload_n dX8_keepsAhead_17 0 rfl ?_
  refine G_getI hclX8 (by decide) rfl 3 (by decide) rfl wd_239 dX8_keepsAhead_18 ?_
  refine G_icmp_ge 53 dX8_keepsAhead_21 (by decide) (fun _ => ?_) (fun _ => ?_)
  refine G_sub [] rfl ?_
  exact hkx
  refine G_aload_n dX8_keepsAhead_24 1 rfl ?_
  refine G_aload_n dX8_keepsAhead_25 0 rfl ?_
  refine G_getI hclX8 (by decide) rfl 3 (by decide) rfl wd_239 dX8_keepsAhead_26 ?_
  refine G_iload_n dX8_keepsAhead_29 3 rfl ?_
  refine G_iload_n dX8_keepsAhead_30 2 rfl ?_
  refine G_aload_n dX8_keepsAhead_31 0 rfl ?_
  refine G_getR hclX8 (by decide) rfl 0 (by decide) rfl wd_236 dX8_keepsAhead_32 ?_
  refine G_iload_n dX8_keepsAhead_35 3 rfl ?_
  refine G_callSN_I (m_SP_at 17 isA_17 _ M) cal_SP_at ⟨Nat.le_of_ble_eq_true rfl, Nat.le_of_ble_eq_true rfl⟩ wn_617 rfl rfl (Nat.le_of_ble_eq_true rfl) dX8_keepsAhead_36 (fun r_2 => ?_)
  refine G_callS_I (m_Tu_keeps _ _ _ _ M) cal_Tu_keeps ⟨Nat.le_of_ble_eq_true rfl, Nat.le_of_ble_eq_true rfl⟩ wd_625 rfl rfl (Nat.le_of_ble_eq_true rfl) dX8_keepsAhead_39 (fun r_3 => ?_)
  refine G_if_ne 47 dX8_keepsAhead_42 (by decide) (fun _ => ?_) (fun _ => ?_)
  refine G_iconst (v := 0) dX8_keepsAhead_45 rfl ?_
  exact G_zreturn rfl rfl dX8_keepsAhead_46 rfl
  refine G_iinc (v3_1 + 1) dX8_keepsAhead_47 3 rfl rfl (by decide) (L' := [(3, .int (v3_1 + 1)), (0, .ref (ad 16)), (1, .ref (ad 1)), (2, .int v2_1)]) rfl ?_
  refine G_goto 16 dX8_keepsAhead_50 (by decide) ?_
  refine G_sub [1, 2, 3, 0] rfl ?_
  exact hag (v3_1 + 1)

set_option maxRecDepth 100000 in
set_option maxHeartbeats 4000000 in
theorem m_Tu_keepsAhead (v2 : Int32) (M : Mem) : MC mi_Tu_keepsAhead (φI M) (fun ad => [.ref (ad 16), .ref (ad 1), .int v2]) M (Tu_keepsAhead v2 M) := by
  refine MC_of rfl (by decide +kernel) (fun ad => [(0, .ref (ad 16)), (1, .ref (ad 1)), (2, .int v2)]) (fun _ => rfl) (fun _ => Nat.le_of_ble_eq_true rfl) (fun X ad => ?_)
  show G X ad mi_Tu_keepsAhead (φI M) 0 [(0, .ref (ad 16)), (1, .ref (ad 1)), (2, .int v2)] [] M _
  unfold Tu_keepsAhead
  refine G_aload_n dX8_keepsAhead_0 1 rfl ?_
  refine G_aload_n dX8_keepsAhead_1 0 rfl ?_
  refine G_getI hclX8 (by decide) rfl 3 (by decide) rfl wd_239 dX8_keepsAhead_2 ?_
  refine G_iload_n dX8_keepsAhead_5 2 rfl ?_
  refine G_callVN_I (m_To_sameMark _ _ M) cal_To_sameMark ⟨Nat.le_of_ble_eq_true rfl, Nat.le_of_ble_eq_true rfl⟩ wn_602 hclX7 (by decide) rfl [.int (M 16 3), .int v2] rfl rfl rfl (Nat.le_of_ble_eq_true rfl) dX8_keepsAhead_6 (fun r_1 => ?_)
  refine G_if_ne 14 dX8_keepsAhead_9 (by decide) (fun _ => ?_) (fun _ => ?_)
  refine G_iconst (v := 0) dX8_keepsAhead_12 rfl ?_
  exact G_zreturn rfl rfl dX8_keepsAhead_13 rfl
  refine G_iconst (v := 0) dX8_keepsAhead_14 rfl ?_
  refine G_istore_n 3 rfl dX8_keepsAhead_15 (by decide) (L' := [(3, .int 0), (0, .ref (ad 16)), (1, .ref (ad 1)), (2, .int v2)]) rfl ?_
  refine G_sub [1, 2, 3, 0] rfl ?_
  refine w_Tu_keepsAhead_L16 X ad v2 M _ ?_ _ _
  refine G_iconst (v := 1) dX8_keepsAhead_53 rfl ?_
  exact G_zreturn rfl rfl dX8_keepsAhead_54 rfl

set_option maxRecDepth 100000 in
set_option maxHeartbeats 4000000 in
theorem m_Tu_lift (M : Mem) : MC mi_Tu_lift (φIM) (fun ad => [.ref (ad 16)]) M (Tu_lift M) := by
  refine MC_of rfl (by decide +kernel) (fun ad => [(0, .ref (ad 16))]) (fun _ => rfl) (fun _ => Nat.le_of_ble_eq_true rfl) (fun X ad => ?_)
  show G X ad mi_Tu_lift (φIM) 0 [(0, .ref (ad 16))] [] M _
  unfold Tu_lift
  refine G_aload_n dX8_lift_0 0 rfl ?_
  refine G_getR hclX8 (by decide) rfl 0 (by decide) rfl wd_236 dX8_lift_1 ?_
  refine G_aload_n dX8_lift_4 0 rfl ?_
  refine G_getI hclX8 (by decide) rfl 3 (by decide) rfl wd_239 dX8_lift_5 ?_
  refine G_callSN_I (m_SP_at 17 isA_17 _ M) cal_SP_at ⟨Nat.le_of_ble_eq_true rfl, Nat.le_of_ble_eq_true rfl⟩ wn_617 rfl rfl (Nat.le_of_ble_eq_true rfl) dX8_lift_8 (fun r_1 => ?_)
  refine G_istore_n 1 rfl dX8_lift_11 (by decide) (L' := [(1, .int r_1), (0, .ref (ad 16))]) rfl ?_
  refine G_iload_n dX8_lift_12 0 rfl ?_
  refine G_if_lt 30 dX8_lift_13 (by decide) (fun _ => ?_) (fun _ => ?_)
  refine G_iload_n dX8_lift_30 0 rfl ?_
  refine G_iconst (v := 1) dX8_lift_31 rfl ?_
  refine G_iadd dX8_lift_32 ?_
  exact G_ireturn rfl rfl dX8_lift_33 rfl
  refine G_aload_n dX8_lift_16 1 rfl ?_
  refine G_dup dX8_lift_17 rfl ?_
  refine G_getI hclX8 (by decide) rfl 4 (by decide) rfl wd_240 dX8_lift_18 ?_
  refine G_iconst (v := 1) dX8_lift_21 rfl ?_
  refine G_iload_n dX8_lift_22 0 rfl ?_
  refine G_ishl dX8_lift_23 ?_
  refine G_iconst (v := -1) dX8_lift_24 rfl ?_
  refine G_ixor dX8_lift_25 ?_
  refine G_iand dX8_lift_26 ?_
  refine G_put hclX8 (by decide) rfl 4 (by decide) rfl rfl (by decide +kernel) wd_240 dX8_lift_27 (fun M1 => ?_)
  refine G_iload_n dX8_lift_30 0 rfl ?_
  refine G_iconst (v := 1) dX8_lift_31 rfl ?_
  refine G_iadd dX8_lift_32 ?_
  exact G_ireturn rfl rfl dX8_lift_33 rfl

set_option maxRecDepth 100000 in
set_option maxHeartbeats 4000000 in
theorem w_Tu_nextKeeping_L6 (X : Cx) (ad : Nat → Nat) (v2_1 : Int32) (v3_1 : Int32) (v4_1 : Int32) (M1 : Mem) (kx : Option (Int32 × Mem)) (hkx : G X ad mi_Tu_nextKeeping (φIM) 127 [] [] M1 (kx)) : ∀ (n : Nat) (s : Int32), G X ad mi_Tu_nextKeeping (φIM) 6 [(0, .ref (ad 16)), (1, .ref (ad 1)), (2, .int v2_1), (3, .int v3_1), (4, .int v4_1), (5, .int s)] [] M1 (LOOP (fun aq sq => Tu_nextKeeping_L6 v2_1 v3_1 v4_1 M1 kx aq sq) n s) := by
  refine LOOP_rule (fun (s : Int32) o => G X ad mi_Tu_nextKeeping (φIM) 6 [(0, .ref (ad 16)), (1, .ref (ad 1)), (2, .int v2_1), (3, .int v3_1), (4, .int v4_1), (5, .int s)] [] M1 o) (fun _ => G_none) (fun ag hag v5_1 => ?_)
  show G X ad mi_Tu_nextKeeping (φIM) 6 [(0, .ref (ad 16)), (1, .ref (ad 1)), (2, .int v2_1), (3, .int v3_1), (4, .int v4_1), (5, .int v5_1)] [] M1 (Tu_nextKeeping_L6 v2_1 v3_1 v4_1 M1 kx ag v5_1)
  unfold Tu_nextKeeping_L6
  refine G_iload dX8_nextKeeping_6 5 rfl ?_
  refine G_aload_n dX8_nextKeeping_8 1 rfl ?_
  refine G_getIN hclX7 (by decide) rfl 2 (by decide) rfl wn_145 dX8_nextKeeping_9 ?_
  refine G_icmp_ge 127 dX8_nextKeeping_12 (by decide) (fun _ => ?_) (fun _ => ?_)
  refine G_sub [] rfl ?_
  exact hkx
  refine G_aload_n dX8_nextKeeping_15 0 rfl ?_
  refine G_getI hclX8 (by decide) rfl 3 (by decide) rfl wd_239 dX8_nextKeeping_16 ?_
  refine G_iload_n dX8_nextKeeping_19 2 rfl ?_
  refine G_jp (fun kq => ∀ (s_1 : Int32), G X ad mi_Tu_nextKeeping (φIM) 73 [(0, .ref (ad 16)), (1, .ref (ad 1)), (2, .int v2_1), (3, .int v3_1), (4, .int v4_1), (5, .int v5_1)] [.int s_1] M1 (kq s_1)) (fun s_1 => ?_) (fun k_1 hk_1 => ?_)
  refine G_istore dX8_nextKeeping_73 (by decide) (L' := [(6, .int s_1), (0, .ref (ad 16)), (1, .ref (ad 1)), (2, .int v2_1), (3, .int v3_1), (4, .int v4_1), (5, .int v5_1)]) rfl ?_
  refine G_iload dX8_nextKeeping_75 0 rfl ?_
  refine G_if_eq 121 dX8_nextKeeping_77 (by decide) (fun _ => ?_) (fun _ => ?_)
  refine G_iinc (v5_1 + 1) dX8_nextKeeping_121 6 rfl rfl (by decide) (L' := [(5, .int (v5_1 + 1)), (6, .int s_1), (0, .ref (ad 16)), (1, .ref (ad 1)), (2, .int v2_1), (3, .int v3_1), (4, .int v4_1)]) rfl ?_
  refine G_goto 6 dX8_nextKeeping_124 (by decide) ?_
  refine G_sub [2, 3, 4, 5, 6, 0] rfl ?_
  exact hag (v5_1 + 1)
  refine G_aload_n dX8_nextKeeping_80 1 rfl ?_
  refine G_getI hclX8 (by decide) rfl 4 (by decide) rfl wd_240 dX8_nextKeeping_81 ?_
  refine G_iload dX8_nextKeeping_84 6 rfl ?_
  refine G_callSN_I (m_SP_holds _ _ M1) cal_SP_holds ⟨Nat.le_of_ble_eq_true rfl, Nat.le_of_ble_eq_true rfl⟩ wn_618 rfl rfl (Nat.le_of_ble_eq_true rfl) dX8_nextKeeping_86 (fun r_2 => ?_)
  refine G_if_ne 121 dX8_nextKeeping_89 (by decide) (fun _ => ?_) (fun _ => ?_)
  refine G_aload_n dX8_nextKeeping_92 1 rfl ?_
  refine G_aload_n dX8_nextKeeping_93 2 rfl ?_
  refine G_iload dX8_nextKeeping_94 6 rfl ?_
  refine G_callV_I (m_Tu_keepsAhead _ M1) cal_Tu_keepsAhead ⟨Nat.le_of_ble_eq_true rfl, Nat.le_of_ble_eq_true rfl⟩ wd_621 hclX8 (by decide) rfl [.ref (ad 1), .int v5_1] rfl rfl rfl (Nat.le_of_ble_eq_true rfl) dX8_nextKeeping_96 (fun r_3 => ?_)
  refine G_if_eq 121 dX8_nextKeeping_99 (by decide) (fun _ => ?_) (fun _ => ?_)
  refine G_iinc (v5_1 + 1) dX8_nextKeeping_121 6 rfl rfl (by decide) (L' := [(5, .int (v5_1 + 1)), (6, .int s_1), (0, .ref (ad 16)), (1, .ref (ad 1)), (2, .int v2_1), (3, .int v3_1), (4, .int v4_1)]) rfl ?_
  refine G_goto 6 dX8_nextKeeping_124 (by decide) ?_
  refine G_sub [2, 3, 4, 5, 6, 0] rfl ?_
  exact hag (v5_1 + 1)
  refine G_aload_n dX8_nextKeeping_102 2 rfl ?_
  refine G_aload_n dX8_nextKeeping_103 1 rfl ?_
  refine G_getI hclX8 (by decide) rfl 3 (by decide) rfl wd_239 dX8_nextKeeping_104 ?_
  refine G_iload_n dX8_nextKeeping_107 4 rfl ?_
  refine G_iload dX8_nextKeeping_108 6 rfl ?_
  refine G_iload dX8_nextKeeping_110 5 rfl ?_
  refine G_callS_I (m_Tu_keeps _ _ _ _ M1) cal_Tu_keeps ⟨Nat.le_of_ble_eq_true rfl, Nat.le_of_ble_eq_true rfl⟩ wd_625 rfl rfl (Nat.le_of_ble_eq_true rfl) dX8_nextKeeping_112 (fun r_4 => ?_)
  refine G_if_eq 121 dX8_nextKeeping_115 (by decide) (fun _ => ?_) (fun _ => ?_)
  refine G_iinc (v5_1 + 1) dX8_nextKeeping_121 6 rfl rfl (by decide) (L' := [(5, .int (v5_1 + 1)), (6, .int s_1), (0, .ref (ad 16)), (1, .ref (ad 1)), (2, .int v2_1), (3, .int v3_1), (4, .int v4_1)]) rfl ?_
  refine G_goto 6 dX8_nextKeeping_124 (by decide) ?_
  refine G_sub [2, 3, 4, 5, 6, 0] rfl ?_
  exact hag (v5_1 + 1)
  refine G_iload dX8_nextKeeping_118 6 rfl ?_
  exact G_ireturn rfl rfl dX8_nextKeeping_120 rfl
  refine G_iinc (v5_1 + 1) dX8_nextKeeping_121 6 rfl rfl (by decide) (L' := [(5, .int (v5_1 + 1)), (6, .int s_1), (0, .ref (ad 16)), (1, .ref (ad 1)), (2, .int v2_1), (3, .int v3_1), (4, .int v4_1)]) rfl ?_
  refine G_goto 6 dX8_nextKeeping_124 (by decide) ?_
  refine G_sub [2, 3, 4, 5, 6, 0] rfl ?_
  exact hag (v5_1 + 1)
  refine G_icmp_ge 40 dX8_nextKeeping_20 (by decide) (fun _ => ?_) (fun _ => ?_)
  refine G_aload_n dX8_nextKeeping_40 0 rfl ?_
  refine G_getI hclX8 (by decide) rfl 3 (by decide) rfl wd_239 dX8_nextKeeping_41 ?_
  refine G_iload_n dX8_nextKeeping_44 3 rfl ?_
  refine G_jp (fun kq => ∀ (s_2 : Int32), G X ad mi_Tu_nextKeeping (φIM) 53 [(0, .ref (ad 16)), (1, .ref (ad 1)), (2, .int v2_1), (3, .int v3_1), (4, .int v4_1), (5, .int v5_1)] [.int s_2] M1 (kq s_2)) (fun s_2 => ?_) (fun k_2 hk_2 => ?_)
  refine G_iload dX8_nextKeeping_53 5 rfl ?_
  refine G_iload dX8_nextKeeping_55 4 rfl ?_
  refine G_jp (fun kq => ∀ (s_3 : Int32), G X ad mi_Tu_nextKeeping (φIM) 65 [(0, .ref (ad 16)), (1, .ref (ad 1)), (2, .int v2_1), (3, .int v3_1), (4, .int v4_1), (5, .int v5_1)] [.int s_3, .int s_2] M1 (kq s_3)) (fun s_3 => ?_) (fun k_3 hk_3 => ?_)
  refine G_icmp_ne 72 dX8_nextKeeping_65 (by decide) (fun _ => ?_) (fun _ => ?_)
  refine G_iconst (v := 1) dX8_nextKeeping_68 rfl ?_
  refine G_goto 73 dX8_nextKeeping_69 (by decide) ?_
  refine G_sub [0, 1, 2, 3, 4, 5] rfl ?_
  exact hk_1 1
  refine G_iconst (v := 0) dX8_nextKeeping_72 rfl ?_
  refine G_sub [0, 1, 2, 3, 4, 5] rfl ?_
  exact hk_1 0
  refine G_icmp_ne 64 dX8_nextKeeping_57 (by decide) (fun _ => ?_) (fun _ => ?_)
  refine G_iconst (v := 1) dX8_nextKeeping_60 rfl ?_
  refine G_goto 65 dX8_nextKeeping_61 (by decide) ?_
  refine G_sub [0, 1, 2, 3, 4, 5] rfl ?_
  exact hk_3 1
  refine G_iconst (v := 0) dX8_nextKeeping_64 rfl ?_
  refine G_sub [0, 1, 2, 3, 4, 5] rfl ?_
  exact hk_3 0
  refine G_icmp_ne 52 dX8_nextKeeping_45 (by decide) (fun _ => ?_) (fun _ => ?_)
  refine G_iconst (v := 1) dX8_nextKeeping_48 rfl ?_
  refine G_goto 53 dX8_nextKeeping_49 (by decide) ?_
  refine G_sub [0, 1, 2, 3, 4, 5] rfl ?_
  exact hk_2 1
  refine G_iconst (v := 0) dX8_nextKeeping_52 rfl ?_
  refine G_sub [0, 1, 2, 3, 4, 5] rfl ?_
  exact hk_2 0
  refine G_iload dX8_nextKeeping_23 5 rfl ?_
  refine G_aload_n dX8_nextKeeping_25 0 rfl ?_
  refine G_getI hclX8 (by decide) rfl 3 (by decide) rfl wd_239 dX8_nextKeeping_26 ?_
  refine G_icmp_ne 36 dX8_nextKeeping_29 (by decide) (fun _ => ?_) (fun _ => ?_)
  refine G_iconst (v := 1) dX8_nextKeeping_32 rfl ?_
  refine G_goto 73 dX8_nextKeeping_33 (by decide) ?_
  refine G_sub [0, 1, 2, 3, 4, 5] rfl ?_
  exact hk_1 1
  refine G_iconst (v := 0) dX8_nextKeeping_36 rfl ?_
  refine G_goto 73 dX8_nextKeeping_37 (by decide) ?_
  refine G_sub [0, 1, 2, 3, 4, 5] rfl ?_
  exact hk_1 0

set_option maxRecDepth 100000 in
set_option maxHeartbeats 4000000 in
theorem m_Tu_nextKeeping (v2 : Int32) (v3 : Int32) (v4 : Int32) (M : Mem) : MC mi_Tu_nextKeeping (φIM) (fun ad => [.ref (ad 16), .ref (ad 1), .int v2, .int v3, .int v4]) M (Tu_nextKeeping v2 v3 v4 M) := by
  refine MC_of rfl (by decide +kernel) (fun ad => [(0, .ref (ad 16)), (1, .ref (ad 1)), (2, .int v2), (3, .int v3), (4, .int v4)]) (fun _ => rfl) (fun _ => Nat.le_of_ble_eq_true rfl) (fun X ad => ?_)
  show G X ad mi_Tu_nextKeeping (φIM) 0 [(0, .ref (ad 16)), (1, .ref (ad 1)), (2, .int v2), (3, .int v3), (4, .int v4)] [] M _
  unfold Tu_nextKeeping
  refine G_aload_n dX8_nextKeeping_0 0 rfl ?_
  refine G_callV_IM (m_Tu_lift M) cal_Tu_lift ⟨Nat.le_of_ble_eq_true rfl, Nat.le_of_ble_eq_true rfl⟩ wd_613 hclX8 (by decide) rfl [] rfl rfl rfl (Nat.le_of_ble_eq_true rfl) dX8_nextKeeping_1 (fun r_1 M1 => ?_)
  refine G_istore dX8_nextKeeping_4 (by decide) (L' := [(5, .int r_1), (0, .ref (ad 16)), (1, .ref (ad 1)), (2, .int v2), (3, .int v3), (4, .int v4)]) rfl ?_
  refine G_sub [1, 2, 3, 4, 5, 0] rfl ?_
  refine w_Tu_nextKeeping_L6 X ad v2 v3 v4 M1 _ ?_ _ _
  refine G_iconst (v := -1) dX8_nextKeeping_127 rfl ?_
  exact G_ireturn rfl rfl dX8_nextKeeping_128 rfl

set_option maxRecDepth 100000 in
set_option maxHeartbeats 4000000 in
theorem m_Tu_step (v1 : Int32) (M : Mem) : MC mi_Tu_step (φV) (fun ad => [.ref (ad 16), .int v1]) M (Tu_step v1 M) := by
  refine MC_of rfl (by decide +kernel) (fun ad => [(0, .ref (ad 16)), (1, .int v1)]) (fun _ => rfl) (fun _ => Nat.le_of_ble_eq_true rfl) (fun X ad => ?_)
  show G X ad mi_Tu_step (φV) 0 [(0, .ref (ad 16)), (1, .int v1)] [] M _
  unfold Tu_step
  refine G_iload_n dX8_step_0 1 rfl ?_
  refine G_if_ge 15 dX8_step_1 (by decide) (fun _ => ?_) (fun _ => ?_)
  refine G_aload_n dX8_step_15 0 rfl ?_
  refine G_getR hclX8 (by decide) rfl 0 (by decide) rfl wd_236 dX8_step_16 ?_
  refine G_aload_n dX8_step_19 0 rfl ?_
  refine G_getI hclX8 (by decide) rfl 3 (by decide) rfl wd_239 dX8_step_20 ?_
  refine G_iload_n dX8_step_23 1 rfl ?_
  refine G_callSN_V (m_SP_put 17 isA_17 _ _ M) cal_SP_put ⟨Nat.le_of_ble_eq_true rfl, Nat.le_of_ble_eq_true rfl⟩ wn_607 rfl rfl (Nat.le_of_ble_eq_true rfl) dX8_step_24 (fun M1 => ?_)
  refine G_aload_n dX8_step_27 0 rfl ?_
  refine G_dup dX8_step_28 rfl ?_
  refine G_getI hclX8 (by decide) rfl 4 (by decide) rfl wd_240 dX8_step_29 ?_
  refine G_iconst (v := 1) dX8_step_32 rfl ?_
  refine G_iload_n dX8_step_33 1 rfl ?_
  refine G_ishl dX8_step_34 ?_
  refine G_ior dX8_step_35 ?_
  refine G_put hclX8 (by decide) rfl 4 (by decide) rfl rfl (by decide +kernel) wd_240 dX8_step_36 (fun M2 => ?_)
  refine G_aload_n dX8_step_39 0 rfl ?_
  refine G_dup dX8_step_40 rfl ?_
  refine G_getI hclX8 (by decide) rfl 3 (by decide) rfl wd_239 dX8_step_41 ?_
  refine G_iconst (v := 1) dX8_step_44 rfl ?_
  refine G_iadd dX8_step_45 ?_
  refine G_put hclX8 (by decide) rfl 3 (by decide) rfl rfl (by decide +kernel) wd_239 dX8_step_46 (fun M3 => ?_)
  refine G_aload_n dX8_step_49 0 rfl ?_
  refine G_getR hclX8 (by decide) rfl 0 (by decide) rfl wd_236 dX8_step_50 ?_
  refine G_aload_n dX8_step_53 0 rfl ?_
  refine G_getI hclX8 (by decide) rfl 3 (by decide) rfl wd_239 dX8_step_54 ?_
  refine G_iconst (v := -1) dX8_step_57 rfl ?_
  refine G_callSN_V (m_SP_put 17 isA_17 _ _ M3) cal_SP_put ⟨Nat.le_of_ble_eq_true rfl, Nat.le_of_ble_eq_true rfl⟩ wn_607 rfl rfl (Nat.le_of_ble_eq_true rfl) dX8_step_58 (fun M4 => ?_)
  exact G_return rfl rfl dX8_step_61 rfl
  refine G_aload_n dX8_step_4 0 rfl ?_
  refine G_dup dX8_step_5 rfl ?_
  refine G_getI hclX8 (by decide) rfl 3 (by decide) rfl wd_239 dX8_step_6 ?_
  refine G_iconst (v := 1) dX8_step_9 rfl ?_
  refine G_isub dX8_step_10 ?_
  refine G_put hclX8 (by decide) rfl 3 (by decide) rfl rfl (by decide +kernel) wd_239 dX8_step_11 (fun M5 => ?_)
  exact G_return rfl rfl dX8_step_14 rfl

set_option maxRecDepth 100000 in
set_option maxHeartbeats 4000000 in
theorem w_Tu_brings_L19 (X : Cx) (ad : Nat → Nat) (v2_1 : Int32) (v3_1 : Int32) (v4_1 : Int32) (kx : Mem → Option (Int32 × Mem)) (hkx : ∀ (Me : Mem), G X ad mi_Tu_brings (φIM) 63 [(0, .ref (ad 16)), (1, .ref (ad 1))] [] Me (kx Me)) : ∀ (n : Nat) (s : Int32 × Mem), G X ad mi_Tu_brings (φIM) 19 [(0, .ref (ad 16)), (1, .ref (ad 1)), (2, .int v2_1), (3, .int v3_1), (4, .int v4_1), (5, .int s.1)] [] s.2 (LOOP (fun aq sq => Tu_brings_L19 v2_1 v3_1 v4_1 kx aq sq.1 sq.2) n s) := by
  refine LOOP_rule (fun (s : Int32 × Mem) o => G X ad mi_Tu_brings (φIM) 19 [(0, .ref (ad 16)), (1, .ref (ad 1)), (2, .int v2_1), (3, .int v3_1), (4, .int v4_1), (5, .int s.1)] [] s.2 o) (fun _ => G_none) (fun ag hag s => ?_)
  obtain ⟨v5_1, M2⟩ := s
  show G X ad mi_Tu_brings (φIM) 19 [(0, .ref (ad 16)), (1, .ref (ad 1)), (2, .int v2_1), (3, .int v3_1), (4, .int v4_1), (5, .int v5_1)] [] M2 (Tu_brings_L19 v2_1 v3_1 v4_1 kx ag v5_1 M2)
  unfold Tu_brings_L19
  refine G_iload dX8_brings_19 5 rfl ?_
  refine G_ldc wd_608 dX8_brings_21 ?_
  refine G_icmp_ge 63 dX8_brings_23 (by decide) (fun _ => ?_) (fun _ => ?_)
  refine G_sub [0, 1] rfl ?_
  exact hkx M2
  refine G_aload_n dX8_brings_26 0 rfl ?_
  refine G_getI hclX8 (by decide) rfl 3 (by decide) rfl wd_239 dX8_brings_27 ?_
  refine G_if_lt 63 dX8_brings_30 (by decide) (fun _ => ?_) (fun _ => ?_)
  refine G_sub [0, 1] rfl ?_
  exact hkx M2
  refine G_aload_n dX8_brings_33 0 rfl ?_
  refine G_getI hclX8 (by decide) rfl 3 (by decide) rfl wd_239 dX8_brings_34 ?_
  refine G_aload_n dX8_brings_37 1 rfl ?_
  refine G_getIN hclX7 (by decide) rfl 2 (by decide) rfl wn_145 dX8_brings_38 ?_
  refine G_icmp_ge 63 dX8_brings_41 (by decide) (fun _ => ?_) (fun _ => ?_)
  refine G_sub [0, 1] rfl ?_
  exact hkx M2
  refine G_aload_n dX8_brings_44 0 rfl ?_
  refine G_aload_n dX8_brings_45 0 rfl ?_
  refine G_aload_n dX8_brings_46 1 rfl ?_
  refine G_iload_n dX8_brings_47 2 rfl ?_
  refine G_iload_n dX8_brings_48 3 rfl ?_
  refine G_iload dX8_brings_49 4 rfl ?_
  refine G_callV_IM (m_Tu_nextKeeping _ _ _ M2) cal_Tu_nextKeeping ⟨Nat.le_of_ble_eq_true rfl, Nat.le_of_ble_eq_true rfl⟩ wd_609 hclX8 (by decide) rfl [.ref (ad 1), .int v2_1, .int v3_1, .int v4_1] rfl rfl rfl (Nat.le_of_ble_eq_true rfl) dX8_brings_51 (fun r_2 M3 => ?_)
  refine G_callV_V (m_Tu_step _ M3) cal_Tu_step ⟨Nat.le_of_ble_eq_true rfl, Nat.le_of_ble_eq_true rfl⟩ wd_629 hclX8 (by decide) rfl [.int r_2] rfl rfl rfl (Nat.le_of_ble_eq_true rfl) dX8_brings_54 (fun M4 => ?_)
  refine G_iinc (v5_1 + 1) dX8_brings_57 5 rfl rfl (by decide) (L' := [(5, .int (v5_1 + 1)), (0, .ref (ad 16)), (1, .ref (ad 1)), (2, .int v2_1), (3, .int v3_1), (4, .int v4_1)]) rfl ?_
  refine G_goto 19 dX8_brings_60 (by decide) ?_
  refine G_sub [1, 2, 3, 4, 5, 0] rfl ?_
  exact hag (v5_1 + 1, M4)

set_option maxRecDepth 100000 in
set_option maxHeartbeats 4000000 in
theorem m_Tu_brings (v2 : Int32) (v3 : Int32) (v4 : Int32) (M : Mem) : MC mi_Tu_brings (φIM) (fun ad => [.ref (ad 16), .ref (ad 1), .int v2, .int v3, .int v4]) M (Tu_brings v2 v3 v4 M) := by
  refine MC_of rfl (by decide +kernel) (fun ad => [(0, .ref (ad 16)), (1, .ref (ad 1)), (2, .int v2), (3, .int v3), (4, .int v4)]) (fun _ => rfl) (fun _ => Nat.le_of_ble_eq_true rfl) (fun X ad => ?_)
  show G X ad mi_Tu_brings (φIM) 0 [(0, .ref (ad 16)), (1, .ref (ad 1)), (2, .int v2), (3, .int v3), (4, .int v4)] [] M _
  unfold Tu_brings
  refine G_aload_n dX8_brings_0 1 rfl ?_
  refine G_iload_n dX8_brings_1 3 rfl ?_
  refine G_iload dX8_brings_2 4 rfl ?_
  refine G_callVN_I (m_To_sameMark _ _ M) cal_To_sameMark ⟨Nat.le_of_ble_eq_true rfl, Nat.le_of_ble_eq_true rfl⟩ wn_602 hclX7 (by decide) rfl [.int v3, .int v4] rfl rfl rfl (Nat.le_of_ble_eq_true rfl) dX8_brings_4 (fun r_1 => ?_)
  refine G_if_ne 12 dX8_brings_7 (by decide) (fun _ => ?_) (fun _ => ?_)
  refine G_iconst (v := 0) dX8_brings_10 rfl ?_
  exact G_zreturn rfl rfl dX8_brings_11 rfl
  refine G_aload_n dX8_brings_12 0 rfl ?_
  refine G_callV_V (m_Tu_begin M) cal_Tu_begin ⟨Nat.le_of_ble_eq_true rfl, Nat.le_of_ble_eq_true rfl⟩ wd_603 hclX8 (by decide) rfl [] rfl rfl rfl (Nat.le_of_ble_eq_true rfl) dX8_brings_13 (fun M1 => ?_)
  refine G_iconst (v := 0) dX8_brings_16 rfl ?_
  refine G_istore dX8_brings_17 (by decide) (L' := [(5, .int 0), (0, .ref (ad 16)), (1, .ref (ad 1)), (2, .int v2), (3, .int v3), (4, .int v4)]) rfl ?_
  refine G_sub [1, 2, 3, 4, 5, 0] rfl ?_
  refine w_Tu_brings_L19 X ad v2 v3 v4 _ (fun M5 => ?_) _ _
  refine G_aload_n dX8_brings_63 0 rfl ?_
  refine G_getI hclX8 (by decide) rfl 3 (by decide) rfl wd_239 dX8_brings_64 ?_
  refine G_aload_n dX8_brings_67 1 rfl ?_
  refine G_getIN hclX7 (by decide) rfl 2 (by decide) rfl wn_145 dX8_brings_68 ?_
  refine G_icmp_lt 78 dX8_brings_71 (by decide) (fun _ => ?_) (fun _ => ?_)
  refine G_iconst (v := 0) dX8_brings_78 rfl ?_
  exact G_zreturn rfl rfl dX8_brings_79 rfl
  refine G_iconst (v := 1) dX8_brings_74 rfl ?_
  refine G_goto 79 dX8_brings_75 (by decide) ?_
  exact G_zreturn rfl rfl dX8_brings_79 rfl

set_option maxRecDepth 100000 in
set_option maxHeartbeats 4000000 in
theorem w_Tu_howMany_L18 (X : Cx) (ad : Nat → Nat) (v2_2 : Int32) (v3_2 : Int32) (kx : Int32 → Mem → Option (Int32 × Mem)) (hkx : ∀ (e4 : Int32) (Me : Mem), G X ad mi_Tu_howMany (φIM) 48 [(0, .ref (ad 16)), (1, .ref (ad 1)), (2, .int v2_2), (3, .int v3_2), (4, .int e4)] [] Me (kx e4 Me)) : ∀ (n : Nat) (s : Int32 × Int32 × Mem), G X ad mi_Tu_howMany (φIM) 18 [(0, .ref (ad 16)), (1, .ref (ad 1)), (2, .int v2_2), (3, .int v3_2), (4, .int s.1), (5, .int s.2.1)] [] s.2.2 (LOOP (fun aq sq => Tu_howMany_L18 v3_2 kx aq sq.1 sq.2.1 sq.2.2) n s) := by
  refine LOOP_rule (fun (s : Int32 × Int32 × Mem) o => G X ad mi_Tu_howMany (φIM) 18 [(0, .ref (ad 16)), (1, .ref (ad 1)), (2, .int v2_2), (3, .int v3_2), (4, .int s.1), (5, .int s.2.1)] [] s.2.2 o) (fun _ => G_none) (fun ag hag s => ?_)
  obtain ⟨v4_1, v5_1, M2⟩ := s
  show G X ad mi_Tu_howMany (φIM) 18 [(0, .ref (ad 16)), (1, .ref (ad 1)), (2, .int v2_2), (3, .int v3_2), (4, .int v4_1), (5, .int v5_1)] [] M2 (Tu_howMany_L18 v3_2 kx ag v4_1 v5_1 M2)
  unfold Tu_howMany_L18
  refine G_iload dX8_howMany_18 5 rfl ?_
  refine G_aload_n dX8_howMany_20 1 rfl ?_
  refine G_getIN hclX7 (by decide) rfl 2 (by decide) rfl wn_145 dX8_howMany_21 ?_
  refine G_icmp_ge 48 dX8_howMany_24 (by decide) (fun _ => ?_) (fun _ => ?_)
  refine G_sub [0, 1, 2, 3, 4] rfl ?_
  exact hkx v4_1 M2
  refine G_aload_n dX8_howMany_27 0 rfl ?_
  refine G_aload_n dX8_howMany_28 1 rfl ?_
  refine G_iload_n dX8_howMany_29 3 rfl ?_
  refine G_iload_n dX8_howMany_30 3 rfl ?_
  refine G_iload dX8_howMany_31 5 rfl ?_
  refine G_callV_IM (m_Tu_brings _ _ _ M2) cal_Tu_brings ⟨Nat.le_of_ble_eq_true rfl, Nat.le_of_ble_eq_true rfl⟩ wd_598 hclX8 (by decide) rfl [.ref (ad 1), .int v3_2, .int v3_2, .int v5_1] rfl rfl rfl (Nat.le_of_ble_eq_true rfl) dX8_howMany_33 (fun r_1 M3 => ?_)
  refine G_if_eq 42 dX8_howMany_36 (by decide) (fun _ => ?_) (fun _ => ?_)
  refine G_iinc (v5_1 + 1) dX8_howMany_42 5 rfl rfl (by decide) (L' := [(5, .int (v5_1 + 1)), (0, .ref (ad 16)), (1, .ref (ad 1)), (2, .int v2_2), (3, .int v3_2), (4, .int v4_1)]) rfl ?_
  refine G_goto 18 dX8_howMany_45 (by decide) ?_
  refine G_sub [1, 2, 3, 4, 5, 0] rfl ?_
  exact hag (v4_1, v5_1 + 1, M3)
  refine G_iinc (v4_1 + 1) dX8_howMany_39 4 rfl rfl (by decide) (L' := [(4, .int (v4_1 + 1)), (0, .ref (ad 16)), (1, .ref (ad 1)), (2, .int v2_2), (3, .int v3_2), (5, .int v5_1)]) rfl ?_
  refine G_iinc (v5_1 + 1) dX8_howMany_42 5 rfl rfl (by decide) (L' := [(5, .int (v5_1 + 1)), (4, .int (v4_1 + 1)), (0, .ref (ad 16)), (1, .ref (ad 1)), (2, .int v2_2), (3, .int v3_2)]) rfl ?_
  refine G_goto 18 dX8_howMany_45 (by decide) ?_
  refine G_sub [2, 3, 4, 5, 1, 0] rfl ?_
  exact hag (v4_1 + 1, v5_1 + 1, M3)

set_option maxRecDepth 100000 in
set_option maxHeartbeats 4000000 in
theorem w_Tu_howMany_L4 (X : Cx) (ad : Nat → Nat) (kx : Int32 → Mem → Option (Int32 × Mem)) (hkx : ∀ (e2 : Int32) (Me : Mem), G X ad mi_Tu_howMany (φIM) 59 [(2, .int e2)] [] Me (kx e2 Me)) : ∀ (n : Nat) (s : Int32 × Int32 × Mem), G X ad mi_Tu_howMany (φIM) 4 [(0, .ref (ad 16)), (1, .ref (ad 1)), (2, .int s.1), (3, .int s.2.1)] [] s.2.2 (LOOP (fun aq sq => Tu_howMany_L4 kx aq sq.1 sq.2.1 sq.2.2) n s) := by
  refine LOOP_rule (fun (s : Int32 × Int32 × Mem) o => G X ad mi_Tu_howMany (φIM) 4 [(0, .ref (ad 16)), (1, .ref (ad 1)), (2, .int s.1), (3, .int s.2.1)] [] s.2.2 o) (fun _ => G_none) (fun ag hag s => ?_)
  obtain ⟨v2_1, v3_1, M1⟩ := s
  show G X ad mi_Tu_howMany (φIM) 4 [(0, .ref (ad 16)), (1, .ref (ad 1)), (2, .int v2_1), (3, .int v3_1)] [] M1 (Tu_howMany_L4 kx ag v2_1 v3_1 M1)
  unfold Tu_howMany_L4
  refine G_iload_n dX8_howMany_4 3 rfl ?_
  refine G_aload_n dX8_howMany_5 1 rfl ?_
  refine G_getIN hclX7 (by decide) rfl 2 (by decide) rfl wn_145 dX8_howMany_6 ?_
  refine G_icmp_ge 59 dX8_howMany_9 (by decide) (fun _ => ?_) (fun _ => ?_)
  refine G_sub [2] rfl ?_
  exact hkx v2_1 M1
  refine G_iconst (v := 0) dX8_howMany_12 rfl ?_
  refine G_istore dX8_howMany_13 (by decide) (L' := [(4, .int 0), (0, .ref (ad 16)), (1, .ref (ad 1)), (2, .int v2_1), (3, .int v3_1)]) rfl ?_
  refine G_iload_n dX8_howMany_15 4 rfl ?_
  refine G_istore dX8_howMany_16 (by decide) (L' := [(5, .int v3_1), (4, .int 0), (0, .ref (ad 16)), (1, .ref (ad 1)), (2, .int v2_1), (3, .int v3_1)]) rfl ?_
  refine G_sub [2, 3, 4, 5, 1, 0] rfl ?_
  refine w_Tu_howMany_L18 X ad v2_1 v3_1 _ (fun v4_2 M4 => ?_) _ _
  refine G_iload_n dX8_howMany_48 2 rfl ?_
  refine G_iload dX8_howMany_49 4 rfl ?_
  refine G_imul dX8_howMany_51 ?_
  refine G_nmI (fun v2_3 => ?_)
  refine G_istore_n 2 rfl dX8_howMany_52 (by decide) (L' := [(2, .int v2_3), (0, .ref (ad 16)), (1, .ref (ad 1)), (3, .int v3_1), (4, .int v4_2)]) rfl ?_
  refine G_iinc (v3_1 + 1) dX8_howMany_53 3 rfl rfl (by decide) (L' := [(3, .int (v3_1 + 1)), (2, .int v2_3), (0, .ref (ad 16)), (1, .ref (ad 1)), (4, .int v4_2)]) rfl ?_
  refine G_goto 4 dX8_howMany_56 (by decide) ?_
  refine G_sub [2, 3, 1, 0] rfl ?_
  exact hag (v2_3, v3_1 + 1, M4)

set_option maxRecDepth 100000 in
set_option maxHeartbeats 4000000 in
theorem m_Tu_howMany (M : Mem) : MC mi_Tu_howMany (φIM) (fun ad => [.ref (ad 16), .ref (ad 1)]) M (Tu_howMany M) := by
  refine MC_of rfl (by decide +kernel) (fun ad => [(0, .ref (ad 16)), (1, .ref (ad 1))]) (fun _ => rfl) (fun _ => Nat.le_of_ble_eq_true rfl) (fun X ad => ?_)
  show G X ad mi_Tu_howMany (φIM) 0 [(0, .ref (ad 16)), (1, .ref (ad 1))] [] M _
  unfold Tu_howMany
  refine G_iconst (v := 1) dX8_howMany_0 rfl ?_
  refine G_istore_n 2 rfl dX8_howMany_1 (by decide) (L' := [(2, .int 1), (0, .ref (ad 16)), (1, .ref (ad 1))]) rfl ?_
  refine G_iconst (v := 0) dX8_howMany_2 rfl ?_
  refine G_istore_n 3 rfl dX8_howMany_3 (by decide) (L' := [(3, .int 0), (2, .int 1), (0, .ref (ad 16)), (1, .ref (ad 1))]) rfl ?_
  refine G_sub [2, 3, 1, 0] rfl ?_
  refine w_Tu_howMany_L4 X ad _ (fun v2_4 M5 => ?_) _ _
  refine G_iload_n dX8_howMany_59 0 rfl ?_
  exact G_ireturn rfl rfl dX8_howMany_60 rfl

set_option maxRecDepth 100000 in
set_option maxHeartbeats 4000000 in
theorem m_SP_renamings (M : Mem) : MC mi_SP_renamings (φIM) (fun ad => [.ref (ad 0)]) M (SP_renamings M) := by
  refine MC_of rfl (by decide +kernel) (fun ad => [(0, .ref (ad 0))]) (fun _ => rfl) (fun _ => Nat.le_of_ble_eq_true rfl) (fun X ad => ?_)
  show G X ad mi_SP_renamings (φIM) 0 [(0, .ref (ad 0))] [] M _
  unfold SP_renamings
  refine G_aload_n dX9_renamings_0 0 rfl ?_
  refine G_aload_n dX9_renamings_1 0 rfl ?_
  refine G_getI hclX9 (by decide) rfl 12 (by decide) rfl wd_319 dX9_renamings_2 ?_
  refine G_callV_V (m_SP_lookAt _ M) cal_SP_lookAt ⟨Nat.le_of_ble_eq_true rfl, Nat.le_of_ble_eq_true rfl⟩ wd_468 hclX9 (by decide) rfl [.int (M 0 12)] rfl rfl rfl (Nat.le_of_ble_eq_true rfl) dX9_renamings_5 (fun M1 => ?_)
  refine G_aload_n dX9_renamings_8 0 rfl ?_
  refine G_getR hclX9 (by decide) rfl 5 (by decide) rfl wd_312 dX9_renamings_9 ?_
  refine G_aload_n dX9_renamings_12 0 rfl ?_
  refine G_getR hclX9 (by decide) rfl 0 (by decide) rfl wd_307 dX9_renamings_13 ?_
  refine G_callVN_IM (m_Tu_howMany M1) cal_Tu_howMany ⟨Nat.le_of_ble_eq_true rfl, Nat.le_of_ble_eq_true rfl⟩ wn_594 hclX8 (by decide) rfl [.ref (ad 1)] rfl rfl rfl (Nat.le_of_ble_eq_true rfl) dX9_renamings_16 (fun r_1 M2 => ?_)
  exact G_ireturn rfl rfl dX9_renamings_19 rfl

set_option maxRecDepth 100000 in
set_option maxHeartbeats 4000000 in
theorem m_SP_moves (v1 : Int32) (v2 : Int32) (M : Mem) : MC mi_SP_moves (φIM) (fun ad => [.ref (ad 0), .int v1, .int v2]) M (SP_moves v1 v2 M) := by
  refine MC_of rfl (by decide +kernel) (fun ad => [(0, .ref (ad 0)), (1, .int v1), (2, .int v2)]) (fun _ => rfl) (fun _ => Nat.le_of_ble_eq_true rfl) (fun X ad => ?_)
  show G X ad mi_SP_moves (φIM) 0 [(0, .ref (ad 0)), (1, .int v1), (2, .int v2)] [] M _
  unfold SP_moves
  refine G_aload_n dX9_moves_0 0 rfl ?_
  refine G_getR hclX9 (by decide) rfl 0 (by decide) rfl wd_307 dX9_moves_1 ?_
  refine G_iload_n dX9_moves_4 1 rfl ?_
  refine G_callVN_I (m_To_lives _ M) cal_To_lives ⟨Nat.le_of_ble_eq_true rfl, Nat.le_of_ble_eq_true rfl⟩ wn_369 hclX7 (by decide) rfl [.int v1] rfl rfl rfl (Nat.le_of_ble_eq_true rfl) dX9_moves_5 (fun r_1 => ?_)
  refine G_jp (fun kq => G X ad mi_SP_moves (φIM) 22 [(0, .ref (ad 0))] [] M (kq)) ?_ (fun k_1 hk_1 => ?_)
  refine G_aload_n dX9_moves_22 0 rfl ?_
  refine G_iconst (v := -1) dX9_moves_23 rfl ?_
  refine G_callV_IM (m_SP_refuse _ M) cal_SP_refuse ⟨Nat.le_of_ble_eq_true rfl, Nat.le_of_ble_eq_true rfl⟩ wd_351 hclX9 (by decide) rfl [.int (-1)] rfl rfl rfl (Nat.le_of_ble_eq_true rfl) dX9_moves_24 (fun r_2 M1 => ?_)
  exact G_ireturn rfl rfl dX9_moves_27 rfl
  refine G_if_eq 22 dX9_moves_8 (by decide) (fun _ => ?_) (fun _ => ?_)
  refine G_sub [0] rfl ?_
  exact hk_1
  refine G_aload_n dX9_moves_11 0 rfl ?_
  refine G_getR hclX9 (by decide) rfl 0 (by decide) rfl wd_307 dX9_moves_12 ?_
  refine G_iload_n dX9_moves_15 2 rfl ?_
  refine G_callVN_I (m_To_lives _ M) cal_To_lives ⟨Nat.le_of_ble_eq_true rfl, Nat.le_of_ble_eq_true rfl⟩ wn_369 hclX7 (by decide) rfl [.int v2] rfl rfl rfl (Nat.le_of_ble_eq_true rfl) dX9_moves_16 (fun r_3 => ?_)
  refine G_if_ne 28 dX9_moves_19 (by decide) (fun _ => ?_) (fun _ => ?_)
  refine G_sub [0] rfl ?_
  exact hk_1
  refine G_aload_n dX9_moves_28 0 rfl ?_
  refine G_aload_n dX9_moves_29 0 rfl ?_
  refine G_getI hclX9 (by decide) rfl 12 (by decide) rfl wd_319 dX9_moves_30 ?_
  refine G_callV_V (m_SP_lookAt _ M) cal_SP_lookAt ⟨Nat.le_of_ble_eq_true rfl, Nat.le_of_ble_eq_true rfl⟩ wd_468 hclX9 (by decide) rfl [.int (M 0 12)] rfl rfl rfl (Nat.le_of_ble_eq_true rfl) dX9_moves_33 (fun M2 => ?_)
  refine G_aload_n dX9_moves_36 0 rfl ?_
  refine G_getR hclX9 (by decide) rfl 5 (by decide) rfl wd_312 dX9_moves_37 ?_
  refine G_aload_n dX9_moves_40 0 rfl ?_
  refine G_getR hclX9 (by decide) rfl 0 (by decide) rfl wd_307 dX9_moves_41 ?_
  refine G_iconst (v := 0) dX9_moves_44 rfl ?_
  refine G_iload_n dX9_moves_45 1 rfl ?_
  refine G_iload_n dX9_moves_46 2 rfl ?_
  refine G_callVN_IM (m_Tu_brings _ _ _ M2) cal_Tu_brings ⟨Nat.le_of_ble_eq_true rfl, Nat.le_of_ble_eq_true rfl⟩ wn_637 hclX8 (by decide) rfl [.ref (ad 1), .int 0, .int v1, .int v2] rfl rfl rfl (Nat.le_of_ble_eq_true rfl) dX9_moves_47 (fun r_4 M3 => ?_)
  refine G_if_eq 57 dX9_moves_50 (by decide) (fun _ => ?_) (fun _ => ?_)
  refine G_iconst (v := 0) dX9_moves_57 rfl ?_
  exact G_ireturn rfl rfl dX9_moves_58 rfl
  refine G_iconst (v := 1) dX9_moves_53 rfl ?_
  refine G_goto 58 dX9_moves_54 (by decide) ?_
  exact G_ireturn rfl rfl dX9_moves_58 rfl

set_option maxRecDepth 100000 in
set_option maxHeartbeats 4000000 in
theorem w_Tu_partByOrbit_L24 (X : Cx) (ad : Nat → Nat) (v3_2 : Int32) (kx : Int32 → Mem → Option Mem) (hkx : ∀ (e4 : Int32) (Me : Mem), G X ad mi_Tu_partByOrbit (φV) 57 [(0, .ref (ad 16)), (1, .ref (ad 1)), (2, .ref (ad 30)), (3, .int v3_2), (4, .int e4)] [] Me (kx e4 Me)) : ∀ (n : Nat) (s : Int32 × Int32 × Mem), G X ad mi_Tu_partByOrbit (φV) 24 [(0, .ref (ad 16)), (1, .ref (ad 1)), (2, .ref (ad 30)), (3, .int v3_2), (4, .int s.1), (5, .int s.2.1)] [] s.2.2 (LOOP (fun aq sq => Tu_partByOrbit_L24 v3_2 kx aq sq.1 sq.2.1 sq.2.2) n s) := by
  refine LOOP_rule (fun (s : Int32 × Int32 × Mem) o => G X ad mi_Tu_partByOrbit (φV) 24 [(0, .ref (ad 16)), (1, .ref (ad 1)), (2, .ref (ad 30)), (3, .int v3_2), (4, .int s.1), (5, .int s.2.1)] [] s.2.2 o) (fun _ => G_none) (fun ag hag s => ?_)
  obtain ⟨v4_1, v5_1, M3⟩ := s
  show G X ad mi_Tu_partByOrbit (φV) 24 [(0, .ref (ad 16)), (1, .ref (ad 1)), (2, .ref (ad 30)), (3, .int v3_2), (4, .int v4_1), (5, .int v5_1)] [] M3 (Tu_partByOrbit_L24 v3_2 kx ag v4_1 v5_1 M3)
  unfold Tu_partByOrbit_L24
  refine G_iload dX8_partByOrbit_24 5 rfl ?_
  refine G_iload_n dX8_partByOrbit_26 3 rfl ?_
  refine G_icmp_ge 57 dX8_partByOrbit_27 (by decide) (fun _ => ?_) (fun _ => ?_)
  refine G_sub [0, 1, 2, 3, 4] rfl ?_
  exact hkx v4_1 M3
  refine G_iload dX8_partByOrbit_30 4 rfl ?_
  refine G_if_ge 57 dX8_partByOrbit_32 (by decide) (fun _ => ?_) (fun _ => ?_)
  refine G_sub [0, 1, 2, 3, 4] rfl ?_
  exact hkx v4_1 M3
  refine G_aload_n dX8_partByOrbit_35 0 rfl ?_
  refine G_aload_n dX8_partByOrbit_36 1 rfl ?_
  refine G_iconst (v := 0) dX8_partByOrbit_37 rfl ?_
  refine G_iload dX8_partByOrbit_38 5 rfl ?_
  refine G_iload_n dX8_partByOrbit_40 3 rfl ?_
  refine G_callV_IM (m_Tu_brings _ _ _ M3) cal_Tu_brings ⟨Nat.le_of_ble_eq_true rfl, Nat.le_of_ble_eq_true rfl⟩ wd_598 hclX8 (by decide) rfl [.ref (ad 1), .int 0, .int v5_1, .int v3_2] rfl rfl rfl (Nat.le_of_ble_eq_true rfl) dX8_partByOrbit_41 (fun r_1 M4 => ?_)
  refine G_if_eq 51 dX8_partByOrbit_44 (by decide) (fun _ => ?_) (fun _ => ?_)
  refine G_iinc (v5_1 + 1) dX8_partByOrbit_51 5 rfl rfl (by decide) (L' := [(5, .int (v5_1 + 1)), (0, .ref (ad 16)), (1, .ref (ad 1)), (2, .ref (ad 30)), (3, .int v3_2), (4, .int v4_1)]) rfl ?_
  refine G_goto 24 dX8_partByOrbit_54 (by decide) ?_
  refine G_sub [1, 2, 3, 4, 5, 0] rfl ?_
  exact hag (v4_1, v5_1 + 1, M4)
  refine G_iload dX8_partByOrbit_47 5 rfl ?_
  refine G_istore dX8_partByOrbit_49 (by decide) (L' := [(4, .int v5_1), (0, .ref (ad 16)), (1, .ref (ad 1)), (2, .ref (ad 30)), (3, .int v3_2), (5, .int v5_1)]) rfl ?_
  refine G_iinc (v5_1 + 1) dX8_partByOrbit_51 5 rfl rfl (by decide) (L' := [(5, .int (v5_1 + 1)), (4, .int v5_1), (0, .ref (ad 16)), (1, .ref (ad 1)), (2, .ref (ad 30)), (3, .int v3_2)]) rfl ?_
  refine G_goto 24 dX8_partByOrbit_54 (by decide) ?_
  refine G_sub [2, 3, 4, 5, 1, 0] rfl ?_
  exact hag (v5_1, v5_1 + 1, M4)

set_option maxRecDepth 100000 in
set_option maxHeartbeats 4000000 in
theorem w_Tu_partByOrbit_L10 (X : Cx) (ad : Nat → Nat) (kx : Mem → Option Mem) (hkx : ∀ (Me : Mem), G X ad mi_Tu_partByOrbit (φV) 70 [] [] Me (kx Me)) : ∀ (n : Nat) (s : Int32 × Mem), G X ad mi_Tu_partByOrbit (φV) 10 [(0, .ref (ad 16)), (1, .ref (ad 1)), (2, .ref (ad 30)), (3, .int s.1)] [] s.2 (LOOP (fun aq sq => Tu_partByOrbit_L10 kx aq sq.1 sq.2) n s) := by
  refine LOOP_rule (fun (s : Int32 × Mem) o => G X ad mi_Tu_partByOrbit (φV) 10 [(0, .ref (ad 16)), (1, .ref (ad 1)), (2, .ref (ad 30)), (3, .int s.1)] [] s.2 o) (fun _ => G_none) (fun ag hag s => ?_)
  obtain ⟨v3_1, M2⟩ := s
  show G X ad mi_Tu_partByOrbit (φV) 10 [(0, .ref (ad 16)), (1, .ref (ad 1)), (2, .ref (ad 30)), (3, .int v3_1)] [] M2 (Tu_partByOrbit_L10 kx ag v3_1 M2)
  unfold Tu_partByOrbit_L10
  refine G_iload_n dX8_partByOrbit_10 3 rfl ?_
  refine G_aload_n dX8_partByOrbit_11 1 rfl ?_
  refine G_getIN hclX7 (by decide) rfl 2 (by decide) rfl wn_145 dX8_partByOrbit_12 ?_
  refine G_icmp_ge 70 dX8_partByOrbit_15 (by decide) (fun _ => ?_) (fun _ => ?_)
  refine G_sub [] rfl ?_
  exact hkx M2
  refine G_iconst (v := -1) dX8_partByOrbit_18 rfl ?_
  refine G_istore dX8_partByOrbit_19 (by decide) (L' := [(4, .int (-1)), (0, .ref (ad 16)), (1, .ref (ad 1)), (2, .ref (ad 30)), (3, .int v3_1)]) rfl ?_
  refine G_iconst (v := 0) dX8_partByOrbit_21 rfl ?_
  refine G_istore dX8_partByOrbit_22 (by decide) (L' := [(5, .int 0), (4, .int (-1)), (0, .ref (ad 16)), (1, .ref (ad 1)), (2, .ref (ad 30)), (3, .int v3_1)]) rfl ?_
  refine G_sub [2, 3, 4, 5, 1, 0] rfl ?_
  refine w_Tu_partByOrbit_L24 X ad v3_1 _ (fun v4_2 M5 => ?_) _ _
  refine G_aload_n dX8_partByOrbit_57 2 rfl ?_
  refine G_iload_n dX8_partByOrbit_58 3 rfl ?_
  refine G_iload dX8_partByOrbit_59 4 rfl ?_
  refine G_callVN_V (m_Pa_place 30 isP_30 _ _ M5) cal_Pa_place ⟨Nat.le_of_ble_eq_true rfl, Nat.le_of_ble_eq_true rfl⟩ wn_647 hclX3 (by decide) rfl [.int v3_1, .int v4_2] rfl rfl rfl (Nat.le_of_ble_eq_true rfl) dX8_partByOrbit_61 (fun M6 => ?_)
  refine G_iinc (v3_1 + 1) dX8_partByOrbit_64 3 rfl rfl (by decide) (L' := [(3, .int (v3_1 + 1)), (0, .ref (ad 16)), (1, .ref (ad 1)), (2, .ref (ad 30)), (4, .int v4_2)]) rfl ?_
  refine G_goto 10 dX8_partByOrbit_67 (by decide) ?_
  refine G_sub [1, 2, 3, 0] rfl ?_
  exact hag (v3_1 + 1, M6)

set_option maxRecDepth 100000 in
set_option maxHeartbeats 4000000 in
theorem m_Tu_partByOrbit (M : Mem) : MC mi_Tu_partByOrbit (φV) (fun ad => [.ref (ad 16), .ref (ad 1), .ref (ad 30)]) M (Tu_partByOrbit M) := by
  refine MC_of rfl (by decide +kernel) (fun ad => [(0, .ref (ad 16)), (1, .ref (ad 1)), (2, .ref (ad 30))]) (fun _ => rfl) (fun _ => Nat.le_of_ble_eq_true rfl) (fun X ad => ?_)
  show G X ad mi_Tu_partByOrbit (φV) 0 [(0, .ref (ad 16)), (1, .ref (ad 1)), (2, .ref (ad 30))] [] M _
  unfold Tu_partByOrbit
  refine G_aload_n dX8_partByOrbit_0 2 rfl ?_
  refine G_aload_n dX8_partByOrbit_1 1 rfl ?_
  refine G_getIN hclX7 (by decide) rfl 2 (by decide) rfl wn_145 dX8_partByOrbit_2 ?_
  refine G_callVN_V (m_Pa_begin 30 isP_30 _ M) cal_Pa_begin ⟨Nat.le_of_ble_eq_true rfl, Nat.le_of_ble_eq_true rfl⟩ wn_646 hclX3 (by decide) rfl [.int (M 1 2)] rfl rfl rfl (Nat.le_of_ble_eq_true rfl) dX8_partByOrbit_5 (fun M1 => ?_)
  refine G_iconst (v := 0) dX8_partByOrbit_8 rfl ?_
  refine G_istore_n 3 rfl dX8_partByOrbit_9 (by decide) (L' := [(3, .int 0), (0, .ref (ad 16)), (1, .ref (ad 1)), (2, .ref (ad 30))]) rfl ?_
  refine G_sub [1, 2, 3, 0] rfl ?_
  refine w_Tu_partByOrbit_L10 X ad _ (fun M7 => ?_) _ _
  exact G_return rfl rfl dX8_partByOrbit_70 rfl

set_option maxRecDepth 100000 in
set_option maxHeartbeats 4000000 in
theorem m_SP_orbits (M : Mem) : MC mi_SP_orbits (φIM) (fun ad => [.ref (ad 0)]) M (SP_orbits M) := by
  refine MC_of rfl (by decide +kernel) (fun ad => [(0, .ref (ad 0))]) (fun _ => rfl) (fun _ => Nat.le_of_ble_eq_true rfl) (fun X ad => ?_)
  show G X ad mi_SP_orbits (φIM) 0 [(0, .ref (ad 0))] [] M _
  unfold SP_orbits
  refine G_aload_n dX9_orbits_0 0 rfl ?_
  refine G_aload_n dX9_orbits_1 0 rfl ?_
  refine G_getI hclX9 (by decide) rfl 12 (by decide) rfl wd_319 dX9_orbits_2 ?_
  refine G_callV_V (m_SP_lookAt _ M) cal_SP_lookAt ⟨Nat.le_of_ble_eq_true rfl, Nat.le_of_ble_eq_true rfl⟩ wd_468 hclX9 (by decide) rfl [.int (M 0 12)] rfl rfl rfl (Nat.le_of_ble_eq_true rfl) dX9_orbits_5 (fun M1 => ?_)
  refine G_aload_n dX9_orbits_8 0 rfl ?_
  refine G_getR hclX9 (by decide) rfl 5 (by decide) rfl wd_312 dX9_orbits_9 ?_
  refine G_aload_n dX9_orbits_12 0 rfl ?_
  refine G_getR hclX9 (by decide) rfl 0 (by decide) rfl wd_307 dX9_orbits_13 ?_
  refine G_aload_n dX9_orbits_16 0 rfl ?_
  refine G_getR hclX9 (by decide) rfl 10 (by decide) rfl wd_317 dX9_orbits_17 ?_
  refine G_callVN_V (m_Tu_partByOrbit M1) cal_Tu_partByOrbit ⟨Nat.le_of_ble_eq_true rfl, Nat.le_of_ble_eq_true rfl⟩ wn_642 hclX8 (by decide) rfl [.ref (ad 1), .ref (ad 30)] rfl rfl rfl (Nat.le_of_ble_eq_true rfl) dX9_orbits_20 (fun M2 => ?_)
  refine G_aload_n dX9_orbits_23 0 rfl ?_
  refine G_getR hclX9 (by decide) rfl 10 (by decide) rfl wd_317 dX9_orbits_24 ?_
  refine G_callVN_I (m_Pa_number 30 isP_30 M2) cal_Pa_number ⟨Nat.le_of_ble_eq_true rfl, Nat.le_of_ble_eq_true rfl⟩ wn_586 hclX3 (by decide) rfl [] rfl rfl rfl (Nat.le_of_ble_eq_true rfl) dX9_orbits_27 (fun r_1 => ?_)
  exact G_ireturn rfl rfl dX9_orbits_30 rfl

set_option maxRecDepth 100000 in
set_option maxHeartbeats 4000000 in
theorem m_Tu_behind (v0 : Int64) (v2 : Int32) (M : Mem) : MC mi_Tu_behind (φL M) (fun ad => [.long v0, .int v2]) M (Tu_behind v0 v2) := by
  refine MC_of rfl (by decide +kernel) (fun ad => [(0, .long v0), (2, .int v2)]) (fun _ => rfl) (fun _ => Nat.le_of_ble_eq_true rfl) (fun X ad => ?_)
  show G X ad mi_Tu_behind (φL M) 0 [(0, .long v0), (2, .int v2)] [] M _
  unfold Tu_behind
  refine G_lload_n dX8_behind_0 0 rfl ?_
  refine G_ldc2 wd_696 dX8_behind_1 ?_
  refine G_lmul dX8_behind_4 ?_
  refine G_iload_n dX8_behind_5 1 rfl ?_
  refine G_i2l dX8_behind_6 ?_
  refine G_ladd dX8_behind_7 ?_
  refine G_ldc2 wd_697 dX8_behind_8 ?_
  refine G_lrem dX8_behind_11 (by decide) ?_
  exact G_lreturn rfl rfl dX8_behind_12 rfl

