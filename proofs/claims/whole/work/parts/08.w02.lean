/-! printed by wip/whole/gen.py: the bytecode does what the functions say -/
set_option maxRecDepth 100000 in
set_option maxHeartbeats 4000000 in
theorem w_Tu_bestAsNumber_L5 (X : Cx) (ad : Nat → Nat) (M : Mem) (kx : Int64 → Option Int32) (hkx : ∀ (e2 : Int64), G X ad mi_Tu_bestAsNumber (φI M) 41 [(0, .ref (ad 16)), (1, .ref (ad 1)), (2, .long e2)] [] M (kx e2)) : ∀ (n : Nat) (s : Int64 × Int32), G X ad mi_Tu_bestAsNumber (φI M) 5 [(0, .ref (ad 16)), (1, .ref (ad 1)), (2, .long s.1), (4, .int s.2)] [] M (LOOP (fun aq sq => Tu_bestAsNumber_L5 M kx aq sq.1 sq.2) n s) := by
  refine LOOP_rule (fun (s : Int64 × Int32) o => G X ad mi_Tu_bestAsNumber (φI M) 5 [(0, .ref (ad 16)), (1, .ref (ad 1)), (2, .long s.1), (4, .int s.2)] [] M o) (fun _ => G_none) (fun ag hag s => ?_)
  obtain ⟨v2_1, v4_1⟩ := s
  show G X ad mi_Tu_bestAsNumber (φI M) 5 [(0, .ref (ad 16)), (1, .ref (ad 1)), (2, .long v2_1), (4, .int v4_1)] [] M (Tu_bestAsNumber_L5 M kx ag v2_1 v4_1)
  unfold Tu_bestAsNumber_L5
  refine G_iload dX8_bestAsNumber_5 3 rfl ?_
  refine G_aload_n dX8_bestAsNumber_7 1 rfl ?_
  refine G_getIN hclX7 (by decide) rfl 2 (by decide) rfl wn_145 dX8_bestAsNumber_8 ?_
  refine G_icmp_ge 41 dX8_bestAsNumber_11 (by decide) (fun _ => ?_) (fun _ => ?_)
  refine G_sub [0, 1, 2] rfl ?_
  exact hkx v2_1
  refine G_lload_n dX8_bestAsNumber_14 2 rfl ?_
  refine G_aload_n dX8_bestAsNumber_15 1 rfl ?_
  refine G_getRN hclX7 (by decide) rfl 0 (by decide) rfl wn_141 dX8_bestAsNumber_16 ?_
  refine G_aload_n dX8_bestAsNumber_19 0 rfl ?_
  refine G_getR hclX8 (by decide) rfl 1 (by decide) rfl wd_237 dX8_bestAsNumber_20 ?_
  refine G_iload dX8_bestAsNumber_23 3 rfl ?_
  refine G_callSN_I (m_SP_at 18 isA_18 _ M) cal_SP_at ⟨Nat.le_of_ble_eq_true rfl, Nat.le_of_ble_eq_true rfl⟩ wn_617 rfl rfl (Nat.le_of_ble_eq_true rfl) dX8_bestAsNumber_25 (fun r_1 => ?_)
  refine G_callSN_I (m_SP_at 2 isA_2 _ M) cal_SP_at ⟨Nat.le_of_ble_eq_true rfl, Nat.le_of_ble_eq_true rfl⟩ wn_617 rfl rfl (Nat.le_of_ble_eq_true rfl) dX8_bestAsNumber_28 (fun r_2 => ?_)
  refine G_callS_L (m_Tu_behind _ _ M) cal_Tu_behind ⟨Nat.le_of_ble_eq_true rfl, Nat.le_of_ble_eq_true rfl⟩ wd_693 rfl rfl (Nat.le_of_ble_eq_true rfl) dX8_bestAsNumber_31 (fun r_3 => ?_)
  refine G_lstore_n 2 rfl dX8_bestAsNumber_34 (by decide) (L' := [(2, .long r_3), (0, .ref (ad 16)), (1, .ref (ad 1)), (4, .int v4_1)]) rfl ?_
  refine G_iinc (v4_1 + 1) dX8_bestAsNumber_35 3 rfl rfl (by decide) (L' := [(4, .int (v4_1 + 1)), (2, .long r_3), (0, .ref (ad 16)), (1, .ref (ad 1))]) rfl ?_
  refine G_goto 5 dX8_bestAsNumber_38 (by decide) ?_
  refine G_sub [2, 3, 1, 0] rfl ?_
  exact hag (r_3, v4_1 + 1)

set_option maxRecDepth 100000 in
set_option maxHeartbeats 4000000 in
theorem w_Tu_bestAsNumber_L65 (X : Cx) (ad : Nat → Nat) (v4_4 : Int32) (v5_2 : Int32) (M : Mem) (kx : Int64 → Option Int32) (hkx : ∀ (e2 : Int64), G X ad mi_Tu_bestAsNumber (φI M) 109 [(0, .ref (ad 16)), (1, .ref (ad 1)), (2, .long e2), (4, .int v4_4), (5, .int v5_2)] [] M (kx e2)) : ∀ (n : Nat) (s : Int64 × Int32), G X ad mi_Tu_bestAsNumber (φI M) 65 [(0, .ref (ad 16)), (1, .ref (ad 1)), (2, .long s.1), (4, .int v4_4), (5, .int v5_2), (6, .int s.2)] [] M (LOOP (fun aq sq => Tu_bestAsNumber_L65 v4_4 v5_2 M kx aq sq.1 sq.2) n s) := by
  refine LOOP_rule (fun (s : Int64 × Int32) o => G X ad mi_Tu_bestAsNumber (φI M) 65 [(0, .ref (ad 16)), (1, .ref (ad 1)), (2, .long s.1), (4, .int v4_4), (5, .int v5_2), (6, .int s.2)] [] M o) (fun _ => G_none) (fun ag hag s => ?_)
  obtain ⟨v2_5, v6_1⟩ := s
  show G X ad mi_Tu_bestAsNumber (φI M) 65 [(0, .ref (ad 16)), (1, .ref (ad 1)), (2, .long v2_5), (4, .int v4_4), (5, .int v5_2), (6, .int v6_1)] [] M (Tu_bestAsNumber_L65 v4_4 v5_2 M kx ag v2_5 v6_1)
  unfold Tu_bestAsNumber_L65
  refine G_iload dX8_bestAsNumber_65 5 rfl ?_
  refine G_aload_n dX8_bestAsNumber_67 1 rfl ?_
  refine G_getIN hclX7 (by decide) rfl 2 (by decide) rfl wn_145 dX8_bestAsNumber_68 ?_
  refine G_icmp_ge 109 dX8_bestAsNumber_71 (by decide) (fun _ => ?_) (fun _ => ?_)
  refine G_sub [0, 1, 2, 3, 4] rfl ?_
  exact hkx v2_5
  refine G_lload_n dX8_bestAsNumber_74 2 rfl ?_
  refine G_aload_n dX8_bestAsNumber_75 1 rfl ?_
  refine G_iload dX8_bestAsNumber_76 3 rfl ?_
  refine G_aload_n dX8_bestAsNumber_78 0 rfl ?_
  refine G_getR hclX8 (by decide) rfl 1 (by decide) rfl wd_237 dX8_bestAsNumber_79 ?_
  refine G_iload dX8_bestAsNumber_82 4 rfl ?_
  refine G_callSN_I (m_SP_at 18 isA_18 _ M) cal_SP_at ⟨Nat.le_of_ble_eq_true rfl, Nat.le_of_ble_eq_true rfl⟩ wn_617 rfl rfl (Nat.le_of_ble_eq_true rfl) dX8_bestAsNumber_84 (fun r_4 => ?_)
  refine G_aload_n dX8_bestAsNumber_87 0 rfl ?_
  refine G_getR hclX8 (by decide) rfl 1 (by decide) rfl wd_237 dX8_bestAsNumber_88 ?_
  refine G_iload dX8_bestAsNumber_91 5 rfl ?_
  refine G_callSN_I (m_SP_at 18 isA_18 _ M) cal_SP_at ⟨Nat.le_of_ble_eq_true rfl, Nat.le_of_ble_eq_true rfl⟩ wn_617 rfl rfl (Nat.le_of_ble_eq_true rfl) dX8_bestAsNumber_93 (fun r_5 => ?_)
  refine G_callVN_I (m_To_strength _ _ _ M) cal_To_strength ⟨Nat.le_of_ble_eq_true rfl, Nat.le_of_ble_eq_true rfl⟩ wn_628 hclX7 (by decide) rfl [.int v4_4, .int r_4, .int r_5] rfl rfl rfl (Nat.le_of_ble_eq_true rfl) dX8_bestAsNumber_96 (fun r_6 => ?_)
  refine G_callS_L (m_Tu_behind _ _ M) cal_Tu_behind ⟨Nat.le_of_ble_eq_true rfl, Nat.le_of_ble_eq_true rfl⟩ wd_693 rfl rfl (Nat.le_of_ble_eq_true rfl) dX8_bestAsNumber_99 (fun r_7 => ?_)
  refine G_lstore_n 2 rfl dX8_bestAsNumber_102 (by decide) (L' := [(2, .long r_7), (0, .ref (ad 16)), (1, .ref (ad 1)), (4, .int v4_4), (5, .int v5_2), (6, .int v6_1)]) rfl ?_
  refine G_iinc (v6_1 + 1) dX8_bestAsNumber_103 5 rfl rfl (by decide) (L' := [(6, .int (v6_1 + 1)), (2, .long r_7), (0, .ref (ad 16)), (1, .ref (ad 1)), (4, .int v4_4), (5, .int v5_2)]) rfl ?_
  refine G_goto 65 dX8_bestAsNumber_106 (by decide) ?_
  refine G_sub [2, 3, 1, 4, 5, 0] rfl ?_
  exact hag (r_7, v6_1 + 1)

set_option maxRecDepth 100000 in
set_option maxHeartbeats 4000000 in
theorem w_Tu_bestAsNumber_L53 (X : Cx) (ad : Nat → Nat) (v4_3 : Int32) (M : Mem) (kx : Int64 → Option Int32) (hkx : ∀ (e2 : Int64), G X ad mi_Tu_bestAsNumber (φI M) 115 [(0, .ref (ad 16)), (1, .ref (ad 1)), (2, .long e2), (4, .int v4_3)] [] M (kx e2)) : ∀ (n : Nat) (s : Int64 × Int32), G X ad mi_Tu_bestAsNumber (φI M) 53 [(0, .ref (ad 16)), (1, .ref (ad 1)), (2, .long s.1), (4, .int v4_3), (5, .int s.2)] [] M (LOOP (fun aq sq => Tu_bestAsNumber_L53 v4_3 M kx aq sq.1 sq.2) n s) := by
  refine LOOP_rule (fun (s : Int64 × Int32) o => G X ad mi_Tu_bestAsNumber (φI M) 53 [(0, .ref (ad 16)), (1, .ref (ad 1)), (2, .long s.1), (4, .int v4_3), (5, .int s.2)] [] M o) (fun _ => G_none) (fun ag hag s => ?_)
  obtain ⟨v2_4, v5_1⟩ := s
  show G X ad mi_Tu_bestAsNumber (φI M) 53 [(0, .ref (ad 16)), (1, .ref (ad 1)), (2, .long v2_4), (4, .int v4_3), (5, .int v5_1)] [] M (Tu_bestAsNumber_L53 v4_3 M kx ag v2_4 v5_1)
  unfold Tu_bestAsNumber_L53
  refine G_iload dX8_bestAsNumber_53 4 rfl ?_
  refine G_aload_n dX8_bestAsNumber_55 1 rfl ?_
  refine G_getIN hclX7 (by decide) rfl 2 (by decide) rfl wn_145 dX8_bestAsNumber_56 ?_
  refine G_icmp_ge 115 dX8_bestAsNumber_59 (by decide) (fun _ => ?_) (fun _ => ?_)
  refine G_sub [0, 1, 2, 3] rfl ?_
  exact hkx v2_4
  refine G_iconst (v := 0) dX8_bestAsNumber_62 rfl ?_
  refine G_istore dX8_bestAsNumber_63 (by decide) (L' := [(6, .int 0), (0, .ref (ad 16)), (1, .ref (ad 1)), (2, .long v2_4), (4, .int v4_3), (5, .int v5_1)]) rfl ?_
  refine G_sub [1, 2, 3, 4, 5, 0] rfl ?_
  refine w_Tu_bestAsNumber_L65 X ad v4_3 v5_1 M _ (fun v2_6 => ?_) _ _
  refine G_iinc (v5_1 + 1) dX8_bestAsNumber_109 4 rfl rfl (by decide) (L' := [(5, .int (v5_1 + 1)), (0, .ref (ad 16)), (1, .ref (ad 1)), (2, .long v2_6), (4, .int v4_3)]) rfl ?_
  refine G_goto 53 dX8_bestAsNumber_112 (by decide) ?_
  refine G_sub [1, 2, 3, 4, 0] rfl ?_
  exact hag (v2_6, v5_1 + 1)

set_option maxRecDepth 100000 in
set_option maxHeartbeats 4000000 in
theorem w_Tu_bestAsNumber_L44 (X : Cx) (ad : Nat → Nat) (M : Mem) (kx : Int64 → Option Int32) (hkx : ∀ (e2 : Int64), G X ad mi_Tu_bestAsNumber (φI M) 121 [(2, .long e2)] [] M (kx e2)) : ∀ (n : Nat) (s : Int64 × Int32), G X ad mi_Tu_bestAsNumber (φI M) 44 [(0, .ref (ad 16)), (1, .ref (ad 1)), (2, .long s.1), (4, .int s.2)] [] M (LOOP (fun aq sq => Tu_bestAsNumber_L44 M kx aq sq.1 sq.2) n s) := by
  refine LOOP_rule (fun (s : Int64 × Int32) o => G X ad mi_Tu_bestAsNumber (φI M) 44 [(0, .ref (ad 16)), (1, .ref (ad 1)), (2, .long s.1), (4, .int s.2)] [] M o) (fun _ => G_none) (fun ag hag s => ?_)
  obtain ⟨v2_3, v4_2⟩ := s
  show G X ad mi_Tu_bestAsNumber (φI M) 44 [(0, .ref (ad 16)), (1, .ref (ad 1)), (2, .long v2_3), (4, .int v4_2)] [] M (Tu_bestAsNumber_L44 M kx ag v2_3 v4_2)
  unfold Tu_bestAsNumber_L44
  refine G_iload dX8_bestAsNumber_44 3 rfl ?_
  refine G_iconst (v := 3) dX8_bestAsNumber_46 rfl ?_
  refine G_icmp_ge 121 dX8_bestAsNumber_47 (by decide) (fun _ => ?_) (fun _ => ?_)
  refine G_sub [2] rfl ?_
  exact hkx v2_3
  refine G_iconst (v := 0) dX8_bestAsNumber_50 rfl ?_
  refine G_istore dX8_bestAsNumber_51 (by decide) (L' := [(5, .int 0), (0, .ref (ad 16)), (1, .ref (ad 1)), (2, .long v2_3), (4, .int v4_2)]) rfl ?_
  refine G_sub [1, 2, 3, 4, 0] rfl ?_
  refine w_Tu_bestAsNumber_L53 X ad v4_2 M _ (fun v2_7 => ?_) _ _
  refine G_iinc (v4_2 + 1) dX8_bestAsNumber_115 3 rfl rfl (by decide) (L' := [(4, .int (v4_2 + 1)), (0, .ref (ad 16)), (1, .ref (ad 1)), (2, .long v2_7)]) rfl ?_
  refine G_goto 44 dX8_bestAsNumber_118 (by decide) ?_
  refine G_sub [1, 2, 3, 0] rfl ?_
  exact hag (v2_7, v4_2 + 1)

set_option maxRecDepth 100000 in
set_option maxHeartbeats 4000000 in
theorem m_Tu_bestAsNumber (M : Mem) : MC mi_Tu_bestAsNumber (φI M) (fun ad => [.ref (ad 16), .ref (ad 1)]) M (Tu_bestAsNumber M) := by
  refine MC_of rfl (by decide +kernel) (fun ad => [(0, .ref (ad 16)), (1, .ref (ad 1))]) (fun _ => rfl) (fun _ => Nat.le_of_ble_eq_true rfl) (fun X ad => ?_)
  show G X ad mi_Tu_bestAsNumber (φI M) 0 [(0, .ref (ad 16)), (1, .ref (ad 1))] [] M _
  unfold Tu_bestAsNumber
  refine G_lconst (v := 0) dX8_bestAsNumber_0 rfl ?_
  refine G_lstore_n 2 rfl dX8_bestAsNumber_1 (by decide) (L' := [(2, .long 0), (0, .ref (ad 16)), (1, .ref (ad 1))]) rfl ?_
  refine G_iconst (v := 0) dX8_bestAsNumber_2 rfl ?_
  refine G_istore dX8_bestAsNumber_3 (by decide) (L' := [(4, .int 0), (2, .long 0), (0, .ref (ad 16)), (1, .ref (ad 1))]) rfl ?_
  refine G_sub [2, 3, 1, 0] rfl ?_
  refine w_Tu_bestAsNumber_L5 X ad M _ (fun v2_2 => ?_) _ _
  refine G_iconst (v := 0) dX8_bestAsNumber_41 rfl ?_
  refine G_istore dX8_bestAsNumber_42 (by decide) (L' := [(4, .int 0), (0, .ref (ad 16)), (1, .ref (ad 1)), (2, .long v2_2)]) rfl ?_
  refine G_sub [1, 2, 3, 0] rfl ?_
  refine w_Tu_bestAsNumber_L44 X ad M _ (fun v2_8 => ?_) _ _
  refine G_lload_n dX8_bestAsNumber_121 0 rfl ?_
  refine G_l2i dX8_bestAsNumber_122 ?_
  exact G_ireturn rfl rfl dX8_bestAsNumber_123 rfl

set_option maxRecDepth 100000 in
set_option maxHeartbeats 4000000 in
theorem w_Tu_findTwins_L15 (X : Cx) (ad : Nat → Nat) (v2_2 : Int32) (M1 : Mem) (kx : Int32 → Option Mem) (hkx : ∀ (e3 : Int32), G X ad mi_Tu_findTwins (φV) 55 [(0, .ref (ad 16)), (1, .ref (ad 1)), (2, .int v2_2), (3, .int e3)] [] M1 (kx e3)) : ∀ (n : Nat) (s : Int32 × Int32), G X ad mi_Tu_findTwins (φV) 15 [(0, .ref (ad 16)), (1, .ref (ad 1)), (2, .int v2_2), (3, .int s.1), (4, .int s.2)] [] M1 (LOOP (fun aq sq => Tu_findTwins_L15 v2_2 M1 kx aq sq.1 sq.2) n s) := by
  refine LOOP_rule (fun (s : Int32 × Int32) o => G X ad mi_Tu_findTwins (φV) 15 [(0, .ref (ad 16)), (1, .ref (ad 1)), (2, .int v2_2), (3, .int s.1), (4, .int s.2)] [] M1 o) (fun _ => G_none) (fun ag hag s => ?_)
  obtain ⟨v3_1, v4_1⟩ := s
  show G X ad mi_Tu_findTwins (φV) 15 [(0, .ref (ad 16)), (1, .ref (ad 1)), (2, .int v2_2), (3, .int v3_1), (4, .int v4_1)] [] M1 (Tu_findTwins_L15 v2_2 M1 kx ag v3_1 v4_1)
  unfold Tu_findTwins_L15
  refine G_iload dX8_findTwins_15 4 rfl ?_
  refine G_iload_n dX8_findTwins_17 2 rfl ?_
  refine G_icmp_ge 55 dX8_findTwins_18 (by decide) (fun _ => ?_) (fun _ => ?_)
  refine G_sub [0, 1, 2, 3] rfl ?_
  exact hkx v3_1
  refine G_aload_n dX8_findTwins_21 1 rfl ?_
  refine G_iload_n dX8_findTwins_22 2 rfl ?_
  refine G_iload dX8_findTwins_23 4 rfl ?_
  refine G_callVN_I (m_To_sameMark _ _ M1) cal_To_sameMark ⟨Nat.le_of_ble_eq_true rfl, Nat.le_of_ble_eq_true rfl⟩ wn_602 hclX7 (by decide) rfl [.int v2_2, .int v4_1] rfl rfl rfl (Nat.le_of_ble_eq_true rfl) dX8_findTwins_25 (fun r_1 => ?_)
  refine G_if_eq 49 dX8_findTwins_28 (by decide) (fun _ => ?_) (fun _ => ?_)
  refine G_iinc (v4_1 + 1) dX8_findTwins_49 4 rfl rfl (by decide) (L' := [(4, .int (v4_1 + 1)), (0, .ref (ad 16)), (1, .ref (ad 1)), (2, .int v2_2), (3, .int v3_1)]) rfl ?_
  refine G_goto 15 dX8_findTwins_52 (by decide) ?_
  refine G_sub [1, 2, 3, 4, 0] rfl ?_
  exact hag (v3_1, v4_1 + 1)
  refine G_aload_n dX8_findTwins_31 1 rfl ?_
  refine G_iload_n dX8_findTwins_32 2 rfl ?_
  refine G_iload dX8_findTwins_33 4 rfl ?_
  refine G_iconst (v := 1) dX8_findTwins_35 rfl ?_
  refine G_callSN_I (m_Sa_swappable _ _ _ M1) cal_Sa_swappable ⟨Nat.le_of_ble_eq_true rfl, Nat.le_of_ble_eq_true rfl⟩ wn_660 rfl rfl (Nat.le_of_ble_eq_true rfl) dX8_findTwins_36 (fun r_2 => ?_)
  refine G_if_eq 49 dX8_findTwins_39 (by decide) (fun _ => ?_) (fun _ => ?_)
  refine G_iinc (v4_1 + 1) dX8_findTwins_49 4 rfl rfl (by decide) (L' := [(4, .int (v4_1 + 1)), (0, .ref (ad 16)), (1, .ref (ad 1)), (2, .int v2_2), (3, .int v3_1)]) rfl ?_
  refine G_goto 15 dX8_findTwins_52 (by decide) ?_
  refine G_sub [1, 2, 3, 4, 0] rfl ?_
  exact hag (v3_1, v4_1 + 1)
  refine G_iload_n dX8_findTwins_42 3 rfl ?_
  refine G_iconst (v := 1) dX8_findTwins_43 rfl ?_
  refine G_iload dX8_findTwins_44 4 rfl ?_
  refine G_ishl dX8_findTwins_46 ?_
  refine G_ior dX8_findTwins_47 ?_
  refine G_nmI (fun v3_2 => ?_)
  refine G_istore_n 3 rfl dX8_findTwins_48 (by decide) (L' := [(3, .int v3_2), (0, .ref (ad 16)), (1, .ref (ad 1)), (2, .int v2_2), (4, .int v4_1)]) rfl ?_
  refine G_iinc (v4_1 + 1) dX8_findTwins_49 4 rfl rfl (by decide) (L' := [(4, .int (v4_1 + 1)), (3, .int v3_2), (0, .ref (ad 16)), (1, .ref (ad 1)), (2, .int v2_2)]) rfl ?_
  refine G_goto 15 dX8_findTwins_52 (by decide) ?_
  refine G_sub [2, 3, 4, 1, 0] rfl ?_
  exact hag (v3_2, v4_1 + 1)

set_option maxRecDepth 100000 in
set_option maxHeartbeats 4000000 in
theorem w_Tu_findTwins_L2 (X : Cx) (ad : Nat → Nat) (kx : Mem → Option Mem) (hkx : ∀ (Me : Mem), G X ad mi_Tu_findTwins (φV) 70 [] [] Me (kx Me)) : ∀ (n : Nat) (s : Int32 × Mem), G X ad mi_Tu_findTwins (φV) 2 [(0, .ref (ad 16)), (1, .ref (ad 1)), (2, .int s.1)] [] s.2 (LOOP (fun aq sq => Tu_findTwins_L2 kx aq sq.1 sq.2) n s) := by
  refine LOOP_rule (fun (s : Int32 × Mem) o => G X ad mi_Tu_findTwins (φV) 2 [(0, .ref (ad 16)), (1, .ref (ad 1)), (2, .int s.1)] [] s.2 o) (fun _ => G_none) (fun ag hag s => ?_)
  obtain ⟨v2_1, M1⟩ := s
  show G X ad mi_Tu_findTwins (φV) 2 [(0, .ref (ad 16)), (1, .ref (ad 1)), (2, .int v2_1)] [] M1 (Tu_findTwins_L2 kx ag v2_1 M1)
  unfold Tu_findTwins_L2
  refine G_iload_n dX8_findTwins_2 2 rfl ?_
  refine G_aload_n dX8_findTwins_3 1 rfl ?_
  refine G_getIN hclX7 (by decide) rfl 2 (by decide) rfl wn_145 dX8_findTwins_4 ?_
  refine G_icmp_ge 70 dX8_findTwins_7 (by decide) (fun _ => ?_) (fun _ => ?_)
  refine G_sub [] rfl ?_
  exact hkx M1
  refine G_iconst (v := 0) dX8_findTwins_10 rfl ?_
  refine G_istore_n 3 rfl dX8_findTwins_11 (by decide) (L' := [(3, .int 0), (0, .ref (ad 16)), (1, .ref (ad 1)), (2, .int v2_1)]) rfl ?_
  refine G_iconst (v := 0) dX8_findTwins_12 rfl ?_
  refine G_istore dX8_findTwins_13 (by decide) (L' := [(4, .int 0), (3, .int 0), (0, .ref (ad 16)), (1, .ref (ad 1)), (2, .int v2_1)]) rfl ?_
  refine G_sub [2, 3, 4, 1, 0] rfl ?_
  refine w_Tu_findTwins_L15 X ad v2_1 M1 _ (fun v3_3 => ?_) _ _
  refine G_aload_n dX8_findTwins_55 0 rfl ?_
  refine G_getR hclX8 (by decide) rfl 2 (by decide) rfl wd_238 dX8_findTwins_56 ?_
  refine G_iload_n dX8_findTwins_59 2 rfl ?_
  refine G_iload_n dX8_findTwins_60 3 rfl ?_
  refine G_callSN_V (m_SP_put 19 isA_19 _ _ M1) cal_SP_put ⟨Nat.le_of_ble_eq_true rfl, Nat.le_of_ble_eq_true rfl⟩ wn_607 rfl rfl (Nat.le_of_ble_eq_true rfl) dX8_findTwins_61 (fun M2 => ?_)
  refine G_iinc (v2_1 + 1) dX8_findTwins_64 2 rfl rfl (by decide) (L' := [(2, .int (v2_1 + 1)), (0, .ref (ad 16)), (1, .ref (ad 1)), (3, .int v3_3)]) rfl ?_
  refine G_goto 2 dX8_findTwins_67 (by decide) ?_
  refine G_sub [1, 2, 0] rfl ?_
  exact hag (v2_1 + 1, M2)

set_option maxRecDepth 100000 in
set_option maxHeartbeats 4000000 in
theorem m_Tu_findTwins (M : Mem) : MC mi_Tu_findTwins (φV) (fun ad => [.ref (ad 16), .ref (ad 1)]) M (Tu_findTwins M) := by
  refine MC_of rfl (by decide +kernel) (fun ad => [(0, .ref (ad 16)), (1, .ref (ad 1))]) (fun _ => rfl) (fun _ => Nat.le_of_ble_eq_true rfl) (fun X ad => ?_)
  show G X ad mi_Tu_findTwins (φV) 0 [(0, .ref (ad 16)), (1, .ref (ad 1))] [] M _
  unfold Tu_findTwins
  refine G_iconst (v := 0) dX8_findTwins_0 rfl ?_
  refine G_istore_n 2 rfl dX8_findTwins_1 (by decide) (L' := [(2, .int 0), (0, .ref (ad 16)), (1, .ref (ad 1))]) rfl ?_
  refine G_sub [1, 2, 0] rfl ?_
  refine w_Tu_findTwins_L2 X ad _ (fun M3 => ?_) _ _
  exact G_return rfl rfl dX8_findTwins_70 rfl

set_option maxRecDepth 100000 in
set_option maxHeartbeats 4000000 in
theorem w_To_tiesOfKind_L4 (X : Cx) (ad : Nat → Nat) (v1_1 : Int32) (M : Mem) (kx : Int32 → Option Int32) (hkx : ∀ (e2 : Int32), G X ad mi_To_tiesOfKind (φI M) 28 [(2, .int e2)] [] M (kx e2)) : ∀ (n : Nat) (s : Int32 × Int32), G X ad mi_To_tiesOfKind (φI M) 4 [(0, .ref (ad 1)), (1, .int v1_1), (2, .int s.1), (3, .int s.2)] [] M (LOOP (fun aq sq => To_tiesOfKind_L4 v1_1 M kx aq sq.1 sq.2) n s) := by
  refine LOOP_rule (fun (s : Int32 × Int32) o => G X ad mi_To_tiesOfKind (φI M) 4 [(0, .ref (ad 1)), (1, .int v1_1), (2, .int s.1), (3, .int s.2)] [] M o) (fun _ => G_none) (fun ag hag s => ?_)
  obtain ⟨v2_1, v3_1⟩ := s
  show G X ad mi_To_tiesOfKind (φI M) 4 [(0, .ref (ad 1)), (1, .int v1_1), (2, .int v2_1), (3, .int v3_1)] [] M (To_tiesOfKind_L4 v1_1 M kx ag v2_1 v3_1)
  unfold To_tiesOfKind_L4
  refine G_iload_n dX7_tiesOfKind_4 3 rfl ?_
  refine G_aload_n dX7_tiesOfKind_5 0 rfl ?_
  refine G_getI hclX7 (by decide) rfl 2 (by decide) rfl wd_144 dX7_tiesOfKind_6 ?_
  refine G_icmp_ge 28 dX7_tiesOfKind_9 (by decide) (fun _ => ?_) (fun _ => ?_)
  refine G_sub [2] rfl ?_
  exact hkx v2_1
  refine G_iload_n dX7_tiesOfKind_12 2 rfl ?_
  refine G_aload_n dX7_tiesOfKind_13 0 rfl ?_
  refine G_iload_n dX7_tiesOfKind_14 1 rfl ?_
  refine G_iload_n dX7_tiesOfKind_15 3 rfl ?_
  refine G_iconst (v := 0) dX7_tiesOfKind_16 rfl ?_
  refine G_callV_I (m_To_tiesOf _ _ _ M) cal_To_tiesOf ⟨Nat.le_of_ble_eq_true rfl, Nat.le_of_ble_eq_true rfl⟩ wd_668 hclX7 (by decide) rfl [.int v1_1, .int v3_1, .int 0] rfl rfl rfl (Nat.le_of_ble_eq_true rfl) dX7_tiesOfKind_17 (fun r_1 => ?_)
  refine G_iadd dX7_tiesOfKind_20 ?_
  refine G_nmI (fun v2_2 => ?_)
  refine G_istore_n 2 rfl dX7_tiesOfKind_21 (by decide) (L' := [(2, .int v2_2), (0, .ref (ad 1)), (1, .int v1_1), (3, .int v3_1)]) rfl ?_
  refine G_iinc (v3_1 + 1) dX7_tiesOfKind_22 3 rfl rfl (by decide) (L' := [(3, .int (v3_1 + 1)), (2, .int v2_2), (0, .ref (ad 1)), (1, .int v1_1)]) rfl ?_
  refine G_goto 4 dX7_tiesOfKind_25 (by decide) ?_
  refine G_sub [2, 3, 1, 0] rfl ?_
  exact hag (v2_2, v3_1 + 1)

set_option maxRecDepth 100000 in
set_option maxHeartbeats 4000000 in
theorem m_To_tiesOfKind (v1 : Int32) (M : Mem) : MC mi_To_tiesOfKind (φI M) (fun ad => [.ref (ad 1), .int v1]) M (To_tiesOfKind v1 M) := by
  refine MC_of rfl (by decide +kernel) (fun ad => [(0, .ref (ad 1)), (1, .int v1)]) (fun _ => rfl) (fun _ => Nat.le_of_ble_eq_true rfl) (fun X ad => ?_)
  show G X ad mi_To_tiesOfKind (φI M) 0 [(0, .ref (ad 1)), (1, .int v1)] [] M _
  unfold To_tiesOfKind
  refine G_iconst (v := 0) dX7_tiesOfKind_0 rfl ?_
  refine G_istore_n 2 rfl dX7_tiesOfKind_1 (by decide) (L' := [(2, .int 0), (0, .ref (ad 1)), (1, .int v1)]) rfl ?_
  refine G_iconst (v := 0) dX7_tiesOfKind_2 rfl ?_
  refine G_istore_n 3 rfl dX7_tiesOfKind_3 (by decide) (L' := [(3, .int 0), (2, .int 0), (0, .ref (ad 1)), (1, .int v1)]) rfl ?_
  refine G_sub [2, 3, 1, 0] rfl ?_
  refine w_To_tiesOfKind_L4 X ad v1 M _ (fun v2_3 => ?_) _ _
  refine G_iload_n dX7_tiesOfKind_28 0 rfl ?_
  exact G_ireturn rfl rfl dX7_tiesOfKind_29 rfl

set_option maxRecDepth 100000 in
set_option maxHeartbeats 4000000 in
theorem w_Tu_firstKind_L2 (X : Cx) (ad : Nat → Nat) (M : Mem) (kx : Option Int32) (hkx : G X ad mi_Tu_firstKind (φI M) 23 [] [] M (kx)) : ∀ (n : Nat) (s : Int32), G X ad mi_Tu_firstKind (φI M) 2 [(0, .ref (ad 1)), (1, .int s)] [] M (LOOP (fun aq sq => Tu_firstKind_L2 M kx aq sq) n s) := by
  refine LOOP_rule (fun (s : Int32) o => G X ad mi_Tu_firstKind (φI M) 2 [(0, .ref (ad 1)), (1, .int s)] [] M o) (fun _ => G_none) (fun ag hag v1_1 => ?_)
  show G X ad mi_Tu_firstKind (φI M) 2 [(0, .ref (ad 1)), (1, .int v1_1)] [] M (Tu_firstKind_L2 M kx ag v1_1)
  unfold Tu_firstKind_L2
  refine G_iload_n dX8_firstKind_2 1 rfl ?_
  refine G_iconst (v := 3) dX8_firstKind_3 rfl ?_
  refine G_icmp_ge 23 dX8_firstKind_4 (by decide) (fun _ => ?_) (fun _ => ?_)
  refine G_sub [] rfl ?_
  exact hkx
  refine G_aload_n dX8_firstKind_7 0 rfl ?_
  refine G_iload_n dX8_firstKind_8 1 rfl ?_
  refine G_callVN_I (m_To_tiesOfKind _ M) cal_To_tiesOfKind ⟨Nat.le_of_ble_eq_true rfl, Nat.le_of_ble_eq_true rfl⟩ wn_664 hclX7 (by decide) rfl [.int v1_1] rfl rfl rfl (Nat.le_of_ble_eq_true rfl) dX8_firstKind_9 (fun r_1 => ?_)
  refine G_if_le 17 dX8_firstKind_12 (by decide) (fun _ => ?_) (fun _ => ?_)
  refine G_iinc (v1_1 + 1) dX8_firstKind_17 1 rfl rfl (by decide) (L' := [(1, .int (v1_1 + 1)), (0, .ref (ad 1))]) rfl ?_
  refine G_goto 2 dX8_firstKind_20 (by decide) ?_
  refine G_sub [1, 0] rfl ?_
  exact hag (v1_1 + 1)
  refine G_iload_n dX8_firstKind_15 1 rfl ?_
  exact G_ireturn rfl rfl dX8_firstKind_16 rfl

set_option maxRecDepth 100000 in
set_option maxHeartbeats 4000000 in
theorem m_Tu_firstKind (M : Mem) : MC mi_Tu_firstKind (φI M) (fun ad => [.ref (ad 1)]) M (Tu_firstKind M) := by
  refine MC_of rfl (by decide +kernel) (fun ad => [(0, .ref (ad 1))]) (fun _ => rfl) (fun _ => Nat.le_of_ble_eq_true rfl) (fun X ad => ?_)
  show G X ad mi_Tu_firstKind (φI M) 0 [(0, .ref (ad 1))] [] M _
  unfold Tu_firstKind
  refine G_iconst (v := 0) dX8_firstKind_0 rfl ?_
  refine G_istore_n 1 rfl dX8_firstKind_1 (by decide) (L' := [(1, .int 0), (0, .ref (ad 1))]) rfl ?_
  refine G_sub [1, 0] rfl ?_
  refine w_Tu_firstKind_L2 X ad M _ ?_ _ _
  refine G_iconst (v := 0) dX8_firstKind_23 rfl ?_
  exact G_ireturn rfl rfl dX8_firstKind_24 rfl

set_option maxRecDepth 100000 in
set_option maxHeartbeats 4000000 in
theorem w_Tu_keepBest_L2 (X : Cx) (ad : Nat → Nat) (kx : Mem → Option Mem) (hkx : ∀ (Me : Mem), G X ad mi_Tu_keepBest (φV) 32 [] [] Me (kx Me)) : ∀ (n : Nat) (s : Int32 × Mem), G X ad mi_Tu_keepBest (φV) 2 [(0, .ref (ad 16)), (1, .ref (ad 1)), (2, .int s.1)] [] s.2 (LOOP (fun aq sq => Tu_keepBest_L2 kx aq sq.1 sq.2) n s) := by
  refine LOOP_rule (fun (s : Int32 × Mem) o => G X ad mi_Tu_keepBest (φV) 2 [(0, .ref (ad 16)), (1, .ref (ad 1)), (2, .int s.1)] [] s.2 o) (fun _ => G_none) (fun ag hag s => ?_)
  obtain ⟨v2_1, M1⟩ := s
  show G X ad mi_Tu_keepBest (φV) 2 [(0, .ref (ad 16)), (1, .ref (ad 1)), (2, .int v2_1)] [] M1 (Tu_keepBest_L2 kx ag v2_1 M1)
  unfold Tu_keepBest_L2
  refine G_iload_n dX8_keepBest_2 2 rfl ?_
  refine G_aload_n dX8_keepBest_3 1 rfl ?_
  refine G_getIN hclX7 (by decide) rfl 2 (by decide) rfl wn_145 dX8_keepBest_4 ?_
  refine G_icmp_ge 32 dX8_keepBest_7 (by decide) (fun _ => ?_) (fun _ => ?_)
  refine G_sub [] rfl ?_
  exact hkx M1
  refine G_aload_n dX8_keepBest_10 0 rfl ?_
  refine G_getR hclX8 (by decide) rfl 1 (by decide) rfl wd_237 dX8_keepBest_11 ?_
  refine G_iload_n dX8_keepBest_14 2 rfl ?_
  refine G_aload_n dX8_keepBest_15 0 rfl ?_
  refine G_getR hclX8 (by decide) rfl 0 (by decide) rfl wd_236 dX8_keepBest_16 ?_
  refine G_iload_n dX8_keepBest_19 2 rfl ?_
  refine G_callSN_I (m_SP_at 17 isA_17 _ M1) cal_SP_at ⟨Nat.le_of_ble_eq_true rfl, Nat.le_of_ble_eq_true rfl⟩ wn_617 rfl rfl (Nat.le_of_ble_eq_true rfl) dX8_keepBest_20 (fun r_1 => ?_)
  refine G_callSN_V (m_SP_put 18 isA_18 _ _ M1) cal_SP_put ⟨Nat.le_of_ble_eq_true rfl, Nat.le_of_ble_eq_true rfl⟩ wn_607 rfl rfl (Nat.le_of_ble_eq_true rfl) dX8_keepBest_23 (fun M2 => ?_)
  refine G_iinc (v2_1 + 1) dX8_keepBest_26 2 rfl rfl (by decide) (L' := [(2, .int (v2_1 + 1)), (0, .ref (ad 16)), (1, .ref (ad 1))]) rfl ?_
  refine G_goto 2 dX8_keepBest_29 (by decide) ?_
  refine G_sub [1, 2, 0] rfl ?_
  exact hag (v2_1 + 1, M2)

set_option maxRecDepth 100000 in
set_option maxHeartbeats 4000000 in
theorem m_Tu_keepBest (M : Mem) : MC mi_Tu_keepBest (φV) (fun ad => [.ref (ad 16), .ref (ad 1)]) M (Tu_keepBest M) := by
  refine MC_of rfl (by decide +kernel) (fun ad => [(0, .ref (ad 16)), (1, .ref (ad 1))]) (fun _ => rfl) (fun _ => Nat.le_of_ble_eq_true rfl) (fun X ad => ?_)
  show G X ad mi_Tu_keepBest (φV) 0 [(0, .ref (ad 16)), (1, .ref (ad 1))] [] M _
  unfold Tu_keepBest
  refine G_iconst (v := 0) dX8_keepBest_0 rfl ?_
  refine G_istore_n 2 rfl dX8_keepBest_1 (by decide) (L' := [(2, .int 0), (0, .ref (ad 16)), (1, .ref (ad 1))]) rfl ?_
  refine G_sub [1, 2, 0] rfl ?_
  refine w_Tu_keepBest_L2 X ad _ (fun M3 => ?_) _ _
  exact G_return rfl rfl dX8_keepBest_32 rfl

set_option maxRecDepth 100000 in
set_option maxHeartbeats 4000000 in
theorem w_Tu_lessThanBest_L22 (X : Cx) (ad : Nat → Nat) (v3_3 : Int32) (v4_2 : Int32) (M : Mem) (kx : Option Int32) (hkx : G X ad mi_Tu_lessThanBest (φI M) 107 [(0, .ref (ad 16)), (1, .ref (ad 1)), (3, .int v3_3), (4, .int v4_2)] [] M (kx)) : ∀ (n : Nat) (s : Int32), G X ad mi_Tu_lessThanBest (φI M) 22 [(0, .ref (ad 16)), (1, .ref (ad 1)), (3, .int v3_3), (4, .int v4_2), (5, .int s)] [] M (LOOP (fun aq sq => Tu_lessThanBest_L22 v3_3 v4_2 M kx aq sq) n s) := by
  refine LOOP_rule (fun (s : Int32) o => G X ad mi_Tu_lessThanBest (φI M) 22 [(0, .ref (ad 16)), (1, .ref (ad 1)), (3, .int v3_3), (4, .int v4_2), (5, .int s)] [] M o) (fun _ => G_none) (fun ag hag v5_1 => ?_)
  show G X ad mi_Tu_lessThanBest (φI M) 22 [(0, .ref (ad 16)), (1, .ref (ad 1)), (3, .int v3_3), (4, .int v4_2), (5, .int v5_1)] [] M (Tu_lessThanBest_L22 v3_3 v4_2 M kx ag v5_1)
  unfold Tu_lessThanBest_L22
  refine G_iload dX8_lessThanBest_22 4 rfl ?_
  refine G_aload_n dX8_lessThanBest_24 1 rfl ?_
  refine G_getIN hclX7 (by decide) rfl 2 (by decide) rfl wn_145 dX8_lessThanBest_25 ?_
  refine G_icmp_ge 107 dX8_lessThanBest_28 (by decide) (fun _ => ?_) (fun _ => ?_)
  refine G_sub [0, 1, 2, 3] rfl ?_
  exact hkx
  refine G_aload_n dX8_lessThanBest_31 1 rfl ?_
  refine G_iload_n dX8_lessThanBest_32 2 rfl ?_
  refine G_aload_n dX8_lessThanBest_33 0 rfl ?_
  refine G_getR hclX8 (by decide) rfl 0 (by decide) rfl wd_236 dX8_lessThanBest_34 ?_
  refine G_iload dX8_lessThanBest_37 3 rfl ?_
  refine G_callSN_I (m_SP_at 17 isA_17 _ M) cal_SP_at ⟨Nat.le_of_ble_eq_true rfl, Nat.le_of_ble_eq_true rfl⟩ wn_617 rfl rfl (Nat.le_of_ble_eq_true rfl) dX8_lessThanBest_39 (fun r_1 => ?_)
  refine G_aload_n dX8_lessThanBest_42 0 rfl ?_
  refine G_getR hclX8 (by decide) rfl 0 (by decide) rfl wd_236 dX8_lessThanBest_43 ?_
  refine G_iload dX8_lessThanBest_46 4 rfl ?_
  refine G_callSN_I (m_SP_at 17 isA_17 _ M) cal_SP_at ⟨Nat.le_of_ble_eq_true rfl, Nat.le_of_ble_eq_true rfl⟩ wn_617 rfl rfl (Nat.le_of_ble_eq_true rfl) dX8_lessThanBest_48 (fun r_2 => ?_)
  refine G_callVN_I (m_To_strength _ _ _ M) cal_To_strength ⟨Nat.le_of_ble_eq_true rfl, Nat.le_of_ble_eq_true rfl⟩ wn_628 hclX7 (by decide) rfl [.int v3_3, .int r_1, .int r_2] rfl rfl rfl (Nat.le_of_ble_eq_true rfl) dX8_lessThanBest_51 (fun r_3 => ?_)
  refine G_istore dX8_lessThanBest_54 (by decide) (L' := [(6, .int r_3), (0, .ref (ad 16)), (1, .ref (ad 1)), (3, .int v3_3), (4, .int v4_2), (5, .int v5_1)]) rfl ?_
  refine G_aload_n dX8_lessThanBest_56 2 rfl ?_
  refine G_iload_n dX8_lessThanBest_57 3 rfl ?_
  refine G_aload_n dX8_lessThanBest_58 1 rfl ?_
  refine G_getR hclX8 (by decide) rfl 1 (by decide) rfl wd_237 dX8_lessThanBest_59 ?_
  refine G_iload dX8_lessThanBest_62 4 rfl ?_
  refine G_callSN_I (m_SP_at 18 isA_18 _ M) cal_SP_at ⟨Nat.le_of_ble_eq_true rfl, Nat.le_of_ble_eq_true rfl⟩ wn_617 rfl rfl (Nat.le_of_ble_eq_true rfl) dX8_lessThanBest_64 (fun r_4 => ?_)
  refine G_aload_n dX8_lessThanBest_67 1 rfl ?_
  refine G_getR hclX8 (by decide) rfl 1 (by decide) rfl wd_237 dX8_lessThanBest_68 ?_
  refine G_iload dX8_lessThanBest_71 5 rfl ?_
  refine G_callSN_I (m_SP_at 18 isA_18 _ M) cal_SP_at ⟨Nat.le_of_ble_eq_true rfl, Nat.le_of_ble_eq_true rfl⟩ wn_617 rfl rfl (Nat.le_of_ble_eq_true rfl) dX8_lessThanBest_73 (fun r_5 => ?_)
  refine G_callVN_I (m_To_strength _ _ _ M) cal_To_strength ⟨Nat.le_of_ble_eq_true rfl, Nat.le_of_ble_eq_true rfl⟩ wn_628 hclX7 (by decide) rfl [.int v3_3, .int r_4, .int r_5] rfl rfl rfl (Nat.le_of_ble_eq_true rfl) dX8_lessThanBest_76 (fun r_6 => ?_)
  refine G_istore dX8_lessThanBest_79 (by decide) (L' := [(7, .int r_6), (6, .int r_3), (0, .ref (ad 16)), (1, .ref (ad 1)), (3, .int v3_3), (4, .int v4_2), (5, .int v5_1)]) rfl ?_
  refine G_iload dX8_lessThanBest_81 1 rfl ?_
  refine G_iload dX8_lessThanBest_83 0 rfl ?_
  refine G_icmp_eq 101 dX8_lessThanBest_85 (by decide) (fun _ => ?_) (fun _ => ?_)
  refine G_iinc (v5_1 + 1) dX8_lessThanBest_101 6 rfl rfl (by decide) (L' := [(5, .int (v5_1 + 1)), (7, .int r_6), (6, .int r_3), (0, .ref (ad 16)), (1, .ref (ad 1)), (3, .int v3_3), (4, .int v4_2)]) rfl ?_
  refine G_goto 22 dX8_lessThanBest_104 (by decide) ?_
  refine G_sub [3, 4, 5, 6, 0] rfl ?_
  exact hag (v5_1 + 1)
  refine G_iload dX8_lessThanBest_88 1 rfl ?_
  refine G_iload dX8_lessThanBest_90 0 rfl ?_
  refine G_icmp_ge 99 dX8_lessThanBest_92 (by decide) (fun _ => ?_) (fun _ => ?_)
  refine G_iconst (v := 0) dX8_lessThanBest_99 rfl ?_
  exact G_zreturn rfl rfl dX8_lessThanBest_100 rfl
  refine G_iconst (v := 1) dX8_lessThanBest_95 rfl ?_
  refine G_goto 100 dX8_lessThanBest_96 (by decide) ?_
  exact G_zreturn rfl rfl dX8_lessThanBest_100 rfl

set_option maxRecDepth 100000 in
set_option maxHeartbeats 4000000 in
theorem w_Tu_lessThanBest_L10 (X : Cx) (ad : Nat → Nat) (v3_2 : Int32) (M : Mem) (kx : Option Int32) (hkx : G X ad mi_Tu_lessThanBest (φI M) 113 [(0, .ref (ad 16)), (1, .ref (ad 1)), (3, .int v3_2)] [] M (kx)) : ∀ (n : Nat) (s : Int32), G X ad mi_Tu_lessThanBest (φI M) 10 [(0, .ref (ad 16)), (1, .ref (ad 1)), (3, .int v3_2), (4, .int s)] [] M (LOOP (fun aq sq => Tu_lessThanBest_L10 v3_2 M kx aq sq) n s) := by
  refine LOOP_rule (fun (s : Int32) o => G X ad mi_Tu_lessThanBest (φI M) 10 [(0, .ref (ad 16)), (1, .ref (ad 1)), (3, .int v3_2), (4, .int s)] [] M o) (fun _ => G_none) (fun ag hag v4_1 => ?_)
  show G X ad mi_Tu_lessThanBest (φI M) 10 [(0, .ref (ad 16)), (1, .ref (ad 1)), (3, .int v3_2), (4, .int v4_1)] [] M (Tu_lessThanBest_L10 v3_2 M kx ag v4_1)
  unfold Tu_lessThanBest_L10
  refine G_iload dX8_lessThanBest_10 3 rfl ?_
  refine G_aload_n dX8_lessThanBest_12 1 rfl ?_
  refine G_getIN hclX7 (by decide) rfl 2 (by decide) rfl wn_145 dX8_lessThanBest_13 ?_
  refine G_icmp_ge 113 dX8_lessThanBest_16 (by decide) (fun _ => ?_) (fun _ => ?_)
  refine G_sub [0, 1, 2] rfl ?_
  exact hkx
  refine G_iconst (v := 0) dX8_lessThanBest_19 rfl ?_
  refine G_istore dX8_lessThanBest_20 (by decide) (L' := [(5, .int 0), (0, .ref (ad 16)), (1, .ref (ad 1)), (3, .int v3_2), (4, .int v4_1)]) rfl ?_
  refine G_sub [1, 2, 3, 4, 0] rfl ?_
  refine w_Tu_lessThanBest_L22 X ad v3_2 v4_1 M _ ?_ _ _
  refine G_iinc (v4_1 + 1) dX8_lessThanBest_107 3 rfl rfl (by decide) (L' := [(4, .int (v4_1 + 1)), (0, .ref (ad 16)), (1, .ref (ad 1)), (3, .int v3_2)]) rfl ?_
  refine G_goto 10 dX8_lessThanBest_110 (by decide) ?_
  refine G_sub [1, 2, 3, 0] rfl ?_
  exact hag (v4_1 + 1)

set_option maxRecDepth 100000 in
set_option maxHeartbeats 4000000 in
theorem w_Tu_lessThanBest_L2 (X : Cx) (ad : Nat → Nat) (M : Mem) (kx : Option Int32) (hkx : G X ad mi_Tu_lessThanBest (φI M) 119 [] [] M (kx)) : ∀ (n : Nat) (s : Int32), G X ad mi_Tu_lessThanBest (φI M) 2 [(0, .ref (ad 16)), (1, .ref (ad 1)), (3, .int s)] [] M (LOOP (fun aq sq => Tu_lessThanBest_L2 M kx aq sq) n s) := by
  refine LOOP_rule (fun (s : Int32) o => G X ad mi_Tu_lessThanBest (φI M) 2 [(0, .ref (ad 16)), (1, .ref (ad 1)), (3, .int s)] [] M o) (fun _ => G_none) (fun ag hag v3_1 => ?_)
  show G X ad mi_Tu_lessThanBest (φI M) 2 [(0, .ref (ad 16)), (1, .ref (ad 1)), (3, .int v3_1)] [] M (Tu_lessThanBest_L2 M kx ag v3_1)
  unfold Tu_lessThanBest_L2
  refine G_iload_n dX8_lessThanBest_2 2 rfl ?_
  refine G_iconst (v := 3) dX8_lessThanBest_3 rfl ?_
  refine G_icmp_ge 119 dX8_lessThanBest_4 (by decide) (fun _ => ?_) (fun _ => ?_)
  refine G_sub [] rfl ?_
  exact hkx
  refine G_iconst (v := 0) dX8_lessThanBest_7 rfl ?_
  refine G_istore dX8_lessThanBest_8 (by decide) (L' := [(4, .int 0), (0, .ref (ad 16)), (1, .ref (ad 1)), (3, .int v3_1)]) rfl ?_
  refine G_sub [1, 2, 3, 0] rfl ?_
  refine w_Tu_lessThanBest_L10 X ad v3_1 M _ ?_ _ _
  refine G_iinc (v3_1 + 1) dX8_lessThanBest_113 2 rfl rfl (by decide) (L' := [(3, .int (v3_1 + 1)), (0, .ref (ad 16)), (1, .ref (ad 1))]) rfl ?_
  refine G_goto 2 dX8_lessThanBest_116 (by decide) ?_
  refine G_sub [1, 2, 0] rfl ?_
  exact hag (v3_1 + 1)

set_option maxRecDepth 100000 in
set_option maxHeartbeats 4000000 in
theorem m_Tu_lessThanBest (v2 : Int32) (M : Mem) : MC mi_Tu_lessThanBest (φI M) (fun ad => [.ref (ad 16), .ref (ad 1), .int v2]) M (Tu_lessThanBest v2 M) := by
  refine MC_of rfl (by decide +kernel) (fun ad => [(0, .ref (ad 16)), (1, .ref (ad 1)), (2, .int v2)]) (fun _ => rfl) (fun _ => Nat.le_of_ble_eq_true rfl) (fun X ad => ?_)
  show G X ad mi_Tu_lessThanBest (φI M) 0 [(0, .ref (ad 16)), (1, .ref (ad 1)), (2, .int v2)] [] M _
  unfold Tu_lessThanBest
  refine G_iload_n dX8_lessThanBest_0 2 rfl ?_
  refine G_istore_n 3 rfl dX8_lessThanBest_1 (by decide) (L' := [(3, .int v2), (0, .ref (ad 16)), (1, .ref (ad 1)), (2, .int v2)]) rfl ?_
  refine G_sub [1, 2, 0] rfl ?_
  refine w_Tu_lessThanBest_L2 X ad M _ ?_ _ _
  refine G_iconst (v := 0) dX8_lessThanBest_119 rfl ?_
  exact G_zreturn rfl rfl dX8_lessThanBest_120 rfl

set_option maxRecDepth 100000 in
set_option maxHeartbeats 4000000 in
theorem w_Tu_behindBest_L3 (X : Cx) (ad : Nat → Nat) (v2_1 : Int32) (v3_1 : Int32) (M : Mem) (kx : Option Int32) (hkx : G X ad mi_Tu_behindBest (φI M) 99 [] [] M (kx)) : ∀ (n : Nat) (s : Int32), G X ad mi_Tu_behindBest (φI M) 3 [(0, .ref (ad 16)), (1, .ref (ad 1)), (2, .int v2_1), (3, .int v3_1), (4, .int s)] [] M (LOOP (fun aq sq => Tu_behindBest_L3 v2_1 v3_1 M kx aq sq) n s) := by
  refine LOOP_rule (fun (s : Int32) o => G X ad mi_Tu_behindBest (φI M) 3 [(0, .ref (ad 16)), (1, .ref (ad 1)), (2, .int v2_1), (3, .int v3_1), (4, .int s)] [] M o) (fun _ => G_none) (fun ag hag v4_1 => ?_)
  show G X ad mi_Tu_behindBest (φI M) 3 [(0, .ref (ad 16)), (1, .ref (ad 1)), (2, .int v2_1), (3, .int v3_1), (4, .int v4_1)] [] M (Tu_behindBest_L3 v2_1 v3_1 M kx ag v4_1)
  unfold Tu_behindBest_L3
  refine G_iload dX8_behindBest_3 4 rfl ?_
  refine G_aload_n dX8_behindBest_5 0 rfl ?_
  refine G_getI hclX8 (by decide) rfl 3 (by decide) rfl wd_239 dX8_behindBest_6 ?_
  refine G_icmp_gt 99 dX8_behindBest_9 (by decide) (fun _ => ?_) (fun _ => ?_)
  refine G_sub [] rfl ?_
  exact hkx
  refine G_aload_n dX8_behindBest_12 1 rfl ?_
  refine G_iload_n dX8_behindBest_13 2 rfl ?_
  refine G_aload_n dX8_behindBest_14 0 rfl ?_
  refine G_getR hclX8 (by decide) rfl 0 (by decide) rfl wd_236 dX8_behindBest_15 ?_
  refine G_iconst (v := 0) dX8_behindBest_18 rfl ?_
  refine G_callSN_I (m_SP_at 17 isA_17 _ M) cal_SP_at ⟨Nat.le_of_ble_eq_true rfl, Nat.le_of_ble_eq_true rfl⟩ wn_617 rfl rfl (Nat.le_of_ble_eq_true rfl) dX8_behindBest_19 (fun r_1 => ?_)
  refine G_iload dX8_behindBest_22 4 rfl ?_
  refine G_aload_n dX8_behindBest_24 0 rfl ?_
  refine G_getI hclX8 (by decide) rfl 3 (by decide) rfl wd_239 dX8_behindBest_25 ?_
  refine G_jp (fun kq => ∀ (s_1 : Int32), G X ad mi_Tu_behindBest (φI M) 44 [(0, .ref (ad 16)), (1, .ref (ad 1)), (2, .int v2_1), (3, .int v3_1), (4, .int v4_1)] [.int s_1, .int r_1, .int v2_1, .ref (ad 1)] M (kq s_1)) (fun s_1 => ?_) (fun k_1 hk_1 => ?_)
  refine G_callVN_I (m_To_strength _ _ _ M) cal_To_strength ⟨Nat.le_of_ble_eq_true rfl, Nat.le_of_ble_eq_true rfl⟩ wn_628 hclX7 (by decide) rfl [.int v2_1, .int r_1, .int s_1] rfl rfl rfl (Nat.le_of_ble_eq_true rfl) dX8_behindBest_44 (fun r_2 => ?_)
  refine G_istore dX8_behindBest_47 (by decide) (L' := [(5, .int r_2), (0, .ref (ad 16)), (1, .ref (ad 1)), (2, .int v2_1), (3, .int v3_1), (4, .int v4_1)]) rfl ?_
  refine G_aload_n dX8_behindBest_49 2 rfl ?_
  refine G_iload_n dX8_behindBest_50 3 rfl ?_
  refine G_aload_n dX8_behindBest_51 1 rfl ?_
  refine G_getR hclX8 (by decide) rfl 1 (by decide) rfl wd_237 dX8_behindBest_52 ?_
  refine G_iconst (v := 0) dX8_behindBest_55 rfl ?_
  refine G_callSN_I (m_SP_at 18 isA_18 _ M) cal_SP_at ⟨Nat.le_of_ble_eq_true rfl, Nat.le_of_ble_eq_true rfl⟩ wn_617 rfl rfl (Nat.le_of_ble_eq_true rfl) dX8_behindBest_56 (fun r_3 => ?_)
  refine G_aload_n dX8_behindBest_59 1 rfl ?_
  refine G_getR hclX8 (by decide) rfl 1 (by decide) rfl wd_237 dX8_behindBest_60 ?_
  refine G_iload dX8_behindBest_63 5 rfl ?_
  refine G_callSN_I (m_SP_at 18 isA_18 _ M) cal_SP_at ⟨Nat.le_of_ble_eq_true rfl, Nat.le_of_ble_eq_true rfl⟩ wn_617 rfl rfl (Nat.le_of_ble_eq_true rfl) dX8_behindBest_65 (fun r_4 => ?_)
  refine G_callVN_I (m_To_strength _ _ _ M) cal_To_strength ⟨Nat.le_of_ble_eq_true rfl, Nat.le_of_ble_eq_true rfl⟩ wn_628 hclX7 (by decide) rfl [.int v2_1, .int r_3, .int r_4] rfl rfl rfl (Nat.le_of_ble_eq_true rfl) dX8_behindBest_68 (fun r_5 => ?_)
  refine G_istore dX8_behindBest_71 (by decide) (L' := [(6, .int r_5), (5, .int r_2), (0, .ref (ad 16)), (1, .ref (ad 1)), (2, .int v2_1), (3, .int v3_1), (4, .int v4_1)]) rfl ?_
  refine G_iload dX8_behindBest_73 1 rfl ?_
  refine G_iload dX8_behindBest_75 0 rfl ?_
  refine G_icmp_eq 93 dX8_behindBest_77 (by decide) (fun _ => ?_) (fun _ => ?_)
  refine G_iinc (v4_1 + 1) dX8_behindBest_93 6 rfl rfl (by decide) (L' := [(4, .int (v4_1 + 1)), (6, .int r_5), (5, .int r_2), (0, .ref (ad 16)), (1, .ref (ad 1)), (2, .int v2_1), (3, .int v3_1)]) rfl ?_
  refine G_goto 3 dX8_behindBest_96 (by decide) ?_
  refine G_sub [3, 4, 5, 6, 0] rfl ?_
  exact hag (v4_1 + 1)
  refine G_iload dX8_behindBest_80 1 rfl ?_
  refine G_iload dX8_behindBest_82 0 rfl ?_
  refine G_icmp_le 91 dX8_behindBest_84 (by decide) (fun _ => ?_) (fun _ => ?_)
  refine G_iconst (v := 0) dX8_behindBest_91 rfl ?_
  exact G_zreturn rfl rfl dX8_behindBest_92 rfl
  refine G_iconst (v := 1) dX8_behindBest_87 rfl ?_
  refine G_goto 92 dX8_behindBest_88 (by decide) ?_
  exact G_zreturn rfl rfl dX8_behindBest_92 rfl
  refine G_icmp_ne 35 dX8_behindBest_28 (by decide) (fun _ => ?_) (fun _ => ?_)
  refine G_iload_n dX8_behindBest_31 3 rfl ?_
  refine G_goto 44 dX8_behindBest_32 (by decide) ?_
  refine G_sub [0, 1, 2, 3, 4] rfl ?_
  exact hk_1 v3_1
  refine G_aload_n dX8_behindBest_35 0 rfl ?_
  refine G_getR hclX8 (by decide) rfl 0 (by decide) rfl wd_236 dX8_behindBest_36 ?_
  refine G_iload dX8_behindBest_39 4 rfl ?_
  refine G_callSN_I (m_SP_at 17 isA_17 _ M) cal_SP_at ⟨Nat.le_of_ble_eq_true rfl, Nat.le_of_ble_eq_true rfl⟩ wn_617 rfl rfl (Nat.le_of_ble_eq_true rfl) dX8_behindBest_41 (fun r_6 => ?_)
  refine G_sub [0, 1, 2, 3, 4] rfl ?_
  exact hk_1 r_6

set_option maxRecDepth 100000 in
set_option maxHeartbeats 4000000 in
theorem m_Tu_behindBest (v2 : Int32) (v3 : Int32) (M : Mem) : MC mi_Tu_behindBest (φI M) (fun ad => [.ref (ad 16), .ref (ad 1), .int v2, .int v3]) M (Tu_behindBest v2 v3 M) := by
  refine MC_of rfl (by decide +kernel) (fun ad => [(0, .ref (ad 16)), (1, .ref (ad 1)), (2, .int v2), (3, .int v3)]) (fun _ => rfl) (fun _ => Nat.le_of_ble_eq_true rfl) (fun X ad => ?_)
  show G X ad mi_Tu_behindBest (φI M) 0 [(0, .ref (ad 16)), (1, .ref (ad 1)), (2, .int v2), (3, .int v3)] [] M _
  unfold Tu_behindBest
  refine G_iconst (v := 1) dX8_behindBest_0 rfl ?_
  refine G_istore dX8_behindBest_1 (by decide) (L' := [(4, .int 1), (0, .ref (ad 16)), (1, .ref (ad 1)), (2, .int v2), (3, .int v3)]) rfl ?_
  refine G_sub [1, 2, 3, 4, 0] rfl ?_
  refine w_Tu_behindBest_L3 X ad v2 v3 M _ ?_ _ _
  refine G_iconst (v := 0) dX8_behindBest_99 rfl ?_
  exact G_zreturn rfl rfl dX8_behindBest_100 rfl

set_option maxRecDepth 100000 in
set_option maxHeartbeats 4000000 in
theorem w_Tu_hasLeastMark_L2 (X : Cx) (ad : Nat → Nat) (v2_1 : Int32) (M : Mem) (kx : Option Int32) (hkx : G X ad mi_Tu_hasLeastMark (φI M) 48 [] [] M (kx)) : ∀ (n : Nat) (s : Int32), G X ad mi_Tu_hasLeastMark (φI M) 2 [(0, .ref (ad 16)), (1, .ref (ad 1)), (2, .int v2_1), (3, .int s)] [] M (LOOP (fun aq sq => Tu_hasLeastMark_L2 v2_1 M kx aq sq) n s) := by
  refine LOOP_rule (fun (s : Int32) o => G X ad mi_Tu_hasLeastMark (φI M) 2 [(0, .ref (ad 16)), (1, .ref (ad 1)), (2, .int v2_1), (3, .int s)] [] M o) (fun _ => G_none) (fun ag hag v3_1 => ?_)
  show G X ad mi_Tu_hasLeastMark (φI M) 2 [(0, .ref (ad 16)), (1, .ref (ad 1)), (2, .int v2_1), (3, .int v3_1)] [] M (Tu_hasLeastMark_L2 v2_1 M kx ag v3_1)
  unfold Tu_hasLeastMark_L2
  refine G_iload_n dX8_hasLeastMark_2 3 rfl ?_
  refine G_aload_n dX8_hasLeastMark_3 1 rfl ?_
  refine G_getIN hclX7 (by decide) rfl 2 (by decide) rfl wn_145 dX8_hasLeastMark_4 ?_
  refine G_icmp_ge 48 dX8_hasLeastMark_7 (by decide) (fun _ => ?_) (fun _ => ?_)
  refine G_sub [] rfl ?_
  exact hkx
  refine G_aload_n dX8_hasLeastMark_10 0 rfl ?_
  refine G_getI hclX8 (by decide) rfl 4 (by decide) rfl wd_240 dX8_hasLeastMark_11 ?_
  refine G_iload_n dX8_hasLeastMark_14 3 rfl ?_
  refine G_callSN_I (m_SP_holds _ _ M) cal_SP_holds ⟨Nat.le_of_ble_eq_true rfl, Nat.le_of_ble_eq_true rfl⟩ wn_618 rfl rfl (Nat.le_of_ble_eq_true rfl) dX8_hasLeastMark_15 (fun r_1 => ?_)
  refine G_if_ne 42 dX8_hasLeastMark_18 (by decide) (fun _ => ?_) (fun _ => ?_)
  refine G_aload_n dX8_hasLeastMark_21 1 rfl ?_
  refine G_getRN hclX7 (by decide) rfl 0 (by decide) rfl wn_141 dX8_hasLeastMark_22 ?_
  refine G_iload_n dX8_hasLeastMark_25 3 rfl ?_
  refine G_callSN_I (m_SP_at 2 isA_2 _ M) cal_SP_at ⟨Nat.le_of_ble_eq_true rfl, Nat.le_of_ble_eq_true rfl⟩ wn_617 rfl rfl (Nat.le_of_ble_eq_true rfl) dX8_hasLeastMark_26 (fun r_2 => ?_)
  refine G_aload_n dX8_hasLeastMark_29 1 rfl ?_
  refine G_getRN hclX7 (by decide) rfl 0 (by decide) rfl wn_141 dX8_hasLeastMark_30 ?_
  refine G_iload_n dX8_hasLeastMark_33 2 rfl ?_
  refine G_callSN_I (m_SP_at 2 isA_2 _ M) cal_SP_at ⟨Nat.le_of_ble_eq_true rfl, Nat.le_of_ble_eq_true rfl⟩ wn_617 rfl rfl (Nat.le_of_ble_eq_true rfl) dX8_hasLeastMark_34 (fun r_3 => ?_)
  refine G_icmp_ge 42 dX8_hasLeastMark_37 (by decide) (fun _ => ?_) (fun _ => ?_)
  refine G_iinc (v3_1 + 1) dX8_hasLeastMark_42 3 rfl rfl (by decide) (L' := [(3, .int (v3_1 + 1)), (0, .ref (ad 16)), (1, .ref (ad 1)), (2, .int v2_1)]) rfl ?_
  refine G_goto 2 dX8_hasLeastMark_45 (by decide) ?_
  refine G_sub [1, 2, 3, 0] rfl ?_
  exact hag (v3_1 + 1)
  refine G_iconst (v := 0) dX8_hasLeastMark_40 rfl ?_
  exact G_zreturn rfl rfl dX8_hasLeastMark_41 rfl
  refine G_iinc (v3_1 + 1) dX8_hasLeastMark_42 3 rfl rfl (by decide) (L' := [(3, .int (v3_1 + 1)), (0, .ref (ad 16)), (1, .ref (ad 1)), (2, .int v2_1)]) rfl ?_
  refine G_goto 2 dX8_hasLeastMark_45 (by decide) ?_
  refine G_sub [1, 2, 3, 0] rfl ?_
  exact hag (v3_1 + 1)

set_option maxRecDepth 100000 in
set_option maxHeartbeats 4000000 in
theorem m_Tu_hasLeastMark (v2 : Int32) (M : Mem) : MC mi_Tu_hasLeastMark (φI M) (fun ad => [.ref (ad 16), .ref (ad 1), .int v2]) M (Tu_hasLeastMark v2 M) := by
  refine MC_of rfl (by decide +kernel) (fun ad => [(0, .ref (ad 16)), (1, .ref (ad 1)), (2, .int v2)]) (fun _ => rfl) (fun _ => Nat.le_of_ble_eq_true rfl) (fun X ad => ?_)
  show G X ad mi_Tu_hasLeastMark (φI M) 0 [(0, .ref (ad 16)), (1, .ref (ad 1)), (2, .int v2)] [] M _
  unfold Tu_hasLeastMark
  refine G_iconst (v := 0) dX8_hasLeastMark_0 rfl ?_
  refine G_istore_n 3 rfl dX8_hasLeastMark_1 (by decide) (L' := [(3, .int 0), (0, .ref (ad 16)), (1, .ref (ad 1)), (2, .int v2)]) rfl ?_
  refine G_sub [1, 2, 3, 0] rfl ?_
  refine w_Tu_hasLeastMark_L2 X ad v2 M _ ?_ _ _
  refine G_iconst (v := 1) dX8_hasLeastMark_48 rfl ?_
  exact G_zreturn rfl rfl dX8_hasLeastMark_49 rfl

set_option maxRecDepth 100000 in
set_option maxHeartbeats 4000000 in
theorem w_Tu_nextInRow_L6 (X : Cx) (ad : Nat → Nat) (v2_1 : Int32) (v3_1 : Int32) (M1 : Mem) (kx : Option (Int32 × Mem)) (hkx : G X ad mi_Tu_nextInRow (φIM) 92 [] [] M1 (kx)) : ∀ (n : Nat) (s : Int32), G X ad mi_Tu_nextInRow (φIM) 6 [(0, .ref (ad 16)), (1, .ref (ad 1)), (2, .int v2_1), (3, .int v3_1), (4, .int s)] [] M1 (LOOP (fun aq sq => Tu_nextInRow_L6 v2_1 v3_1 M1 kx aq sq) n s) := by
  refine LOOP_rule (fun (s : Int32) o => G X ad mi_Tu_nextInRow (φIM) 6 [(0, .ref (ad 16)), (1, .ref (ad 1)), (2, .int v2_1), (3, .int v3_1), (4, .int s)] [] M1 o) (fun _ => G_none) (fun ag hag v4_1 => ?_)
  show G X ad mi_Tu_nextInRow (φIM) 6 [(0, .ref (ad 16)), (1, .ref (ad 1)), (2, .int v2_1), (3, .int v3_1), (4, .int v4_1)] [] M1 (Tu_nextInRow_L6 v2_1 v3_1 M1 kx ag v4_1)
  unfold Tu_nextInRow_L6
  refine G_iload dX8_nextInRow_6 4 rfl ?_
  refine G_aload_n dX8_nextInRow_8 1 rfl ?_
  refine G_getIN hclX7 (by decide) rfl 2 (by decide) rfl wn_145 dX8_nextInRow_9 ?_
  refine G_icmp_ge 92 dX8_nextInRow_12 (by decide) (fun _ => ?_) (fun _ => ?_)
  refine G_sub [] rfl ?_
  exact hkx
  refine G_aload_n dX8_nextInRow_15 0 rfl ?_
  refine G_getI hclX8 (by decide) rfl 4 (by decide) rfl wd_240 dX8_nextInRow_16 ?_
  refine G_iload dX8_nextInRow_19 4 rfl ?_
  refine G_callSN_I (m_SP_holds _ _ M1) cal_SP_holds ⟨Nat.le_of_ble_eq_true rfl, Nat.le_of_ble_eq_true rfl⟩ wn_618 rfl rfl (Nat.le_of_ble_eq_true rfl) dX8_nextInRow_21 (fun r_2 => ?_)
  refine G_jp (fun kq => ∀ (s_1 : Int32), G X ad mi_Tu_nextInRow (φIM) 51 [(0, .ref (ad 16)), (1, .ref (ad 1)), (2, .int v2_1), (3, .int v3_1), (4, .int v4_1)] [.int s_1] M1 (kq s_1)) (fun s_1 => ?_) (fun k_1 hk_1 => ?_)
  refine G_istore dX8_nextInRow_51 (by decide) (L' := [(5, .int s_1), (0, .ref (ad 16)), (1, .ref (ad 1)), (2, .int v2_1), (3, .int v3_1), (4, .int v4_1)]) rfl ?_
  refine G_iload dX8_nextInRow_53 0 rfl ?_
  refine G_if_eq 86 dX8_nextInRow_55 (by decide) (fun _ => ?_) (fun _ => ?_)
  refine G_iinc (v4_1 + 1) dX8_nextInRow_86 5 rfl rfl (by decide) (L' := [(4, .int (v4_1 + 1)), (5, .int s_1), (0, .ref (ad 16)), (1, .ref (ad 1)), (2, .int v2_1), (3, .int v3_1)]) rfl ?_
  refine G_goto 6 dX8_nextInRow_89 (by decide) ?_
  refine G_sub [2, 3, 4, 5, 0] rfl ?_
  exact hag (v4_1 + 1)
  refine G_aload_n dX8_nextInRow_58 1 rfl ?_
  refine G_aload_n dX8_nextInRow_59 2 rfl ?_
  refine G_iload dX8_nextInRow_60 5 rfl ?_
  refine G_callV_I (m_Tu_hasLeastMark _ M1) cal_Tu_hasLeastMark ⟨Nat.le_of_ble_eq_true rfl, Nat.le_of_ble_eq_true rfl⟩ wd_673 hclX8 (by decide) rfl [.ref (ad 1), .int v4_1] rfl rfl rfl (Nat.le_of_ble_eq_true rfl) dX8_nextInRow_62 (fun r_3 => ?_)
  refine G_if_eq 86 dX8_nextInRow_65 (by decide) (fun _ => ?_) (fun _ => ?_)
  refine G_iinc (v4_1 + 1) dX8_nextInRow_86 5 rfl rfl (by decide) (L' := [(4, .int (v4_1 + 1)), (5, .int s_1), (0, .ref (ad 16)), (1, .ref (ad 1)), (2, .int v2_1), (3, .int v3_1)]) rfl ?_
  refine G_goto 6 dX8_nextInRow_89 (by decide) ?_
  refine G_sub [2, 3, 4, 5, 0] rfl ?_
  exact hag (v4_1 + 1)
  refine G_iload_n dX8_nextInRow_68 4 rfl ?_
  refine G_if_eq 83 dX8_nextInRow_69 (by decide) (fun _ => ?_) (fun _ => ?_)
  refine G_iload dX8_nextInRow_83 5 rfl ?_
  exact G_ireturn rfl rfl dX8_nextInRow_85 rfl
  refine G_aload_n dX8_nextInRow_72 1 rfl ?_
  refine G_aload_n dX8_nextInRow_73 2 rfl ?_
  refine G_iload_n dX8_nextInRow_74 3 rfl ?_
  refine G_iload dX8_nextInRow_75 5 rfl ?_
  refine G_callV_I (m_Tu_behindBest _ _ M1) cal_Tu_behindBest ⟨Nat.le_of_ble_eq_true rfl, Nat.le_of_ble_eq_true rfl⟩ wd_677 hclX8 (by decide) rfl [.ref (ad 1), .int v2_1, .int v4_1] rfl rfl rfl (Nat.le_of_ble_eq_true rfl) dX8_nextInRow_77 (fun r_4 => ?_)
  refine G_if_ne 86 dX8_nextInRow_80 (by decide) (fun _ => ?_) (fun _ => ?_)
  refine G_iload dX8_nextInRow_83 5 rfl ?_
  exact G_ireturn rfl rfl dX8_nextInRow_85 rfl
  refine G_iinc (v4_1 + 1) dX8_nextInRow_86 5 rfl rfl (by decide) (L' := [(4, .int (v4_1 + 1)), (5, .int s_1), (0, .ref (ad 16)), (1, .ref (ad 1)), (2, .int v2_1), (3, .int v3_1)]) rfl ?_
  refine G_goto 6 dX8_nextInRow_89 (by decide) ?_
  refine G_sub [2, 3, 4, 5, 0] rfl ?_
  exact hag (v4_1 + 1)
  refine G_if_ne 50 dX8_nextInRow_24 (by decide) (fun _ => ?_) (fun _ => ?_)
  refine G_aload_n dX8_nextInRow_27 0 rfl ?_
  refine G_getR hclX8 (by decide) rfl 2 (by decide) rfl wd_238 dX8_nextInRow_28 ?_
  refine G_iload dX8_nextInRow_31 4 rfl ?_
  refine G_callSN_I (m_SP_at 19 isA_19 _ M1) cal_SP_at ⟨Nat.le_of_ble_eq_true rfl, Nat.le_of_ble_eq_true rfl⟩ wn_617 rfl rfl (Nat.le_of_ble_eq_true rfl) dX8_nextInRow_33 (fun r_5 => ?_)
  refine G_aload_n dX8_nextInRow_36 0 rfl ?_
  refine G_getI hclX8 (by decide) rfl 4 (by decide) rfl wd_240 dX8_nextInRow_37 ?_
  refine G_iconst (v := -1) dX8_nextInRow_40 rfl ?_
  refine G_ixor dX8_nextInRow_41 ?_
  refine G_iand dX8_nextInRow_42 ?_
  refine G_if_ne 50 dX8_nextInRow_43 (by decide) (fun _ => ?_) (fun _ => ?_)
  refine G_iconst (v := 1) dX8_nextInRow_46 rfl ?_
  refine G_goto 51 dX8_nextInRow_47 (by decide) ?_
  refine G_sub [0, 1, 2, 3, 4] rfl ?_
  exact hk_1 1
  refine G_iconst (v := 0) dX8_nextInRow_50 rfl ?_
  refine G_sub [0, 1, 2, 3, 4] rfl ?_
  exact hk_1 0
  refine G_iconst (v := 0) dX8_nextInRow_50 rfl ?_
  refine G_sub [0, 1, 2, 3, 4] rfl ?_
  exact hk_1 0

set_option maxRecDepth 100000 in
set_option maxHeartbeats 4000000 in
theorem m_Tu_nextInRow (v2 : Int32) (v3 : Int32) (M : Mem) : MC mi_Tu_nextInRow (φIM) (fun ad => [.ref (ad 16), .ref (ad 1), .int v2, .int v3]) M (Tu_nextInRow v2 v3 M) := by
  refine MC_of rfl (by decide +kernel) (fun ad => [(0, .ref (ad 16)), (1, .ref (ad 1)), (2, .int v2), (3, .int v3)]) (fun _ => rfl) (fun _ => Nat.le_of_ble_eq_true rfl) (fun X ad => ?_)
  show G X ad mi_Tu_nextInRow (φIM) 0 [(0, .ref (ad 16)), (1, .ref (ad 1)), (2, .int v2), (3, .int v3)] [] M _
  unfold Tu_nextInRow
  refine G_aload_n dX8_nextInRow_0 0 rfl ?_
  refine G_callV_IM (m_Tu_lift M) cal_Tu_lift ⟨Nat.le_of_ble_eq_true rfl, Nat.le_of_ble_eq_true rfl⟩ wd_613 hclX8 (by decide) rfl [] rfl rfl rfl (Nat.le_of_ble_eq_true rfl) dX8_nextInRow_1 (fun r_1 M1 => ?_)
  refine G_istore dX8_nextInRow_4 (by decide) (L' := [(4, .int r_1), (0, .ref (ad 16)), (1, .ref (ad 1)), (2, .int v2), (3, .int v3)]) rfl ?_
  refine G_sub [1, 2, 3, 4, 0] rfl ?_
  refine w_Tu_nextInRow_L6 X ad v2 v3 M1 _ ?_ _ _
  refine G_iconst (v := -1) dX8_nextInRow_92 rfl ?_
  exact G_ireturn rfl rfl dX8_nextInRow_93 rfl

set_option maxRecDepth 100000 in
set_option maxHeartbeats 4000000 in
theorem w_Tu_leastRow_L19 (X : Cx) (ad : Nat → Nat) (v2_1 : Int32) (kx : Mem → Option (Int32 × Mem)) (hkx : ∀ (Me : Mem), G X ad mi_Tu_leastRow (φIM) 94 [(0, .ref (ad 16)), (1, .ref (ad 1))] [] Me (kx Me)) : ∀ (n : Nat) (s : Int32 × Int32 × Mem), G X ad mi_Tu_leastRow (φIM) 19 [(0, .ref (ad 16)), (1, .ref (ad 1)), (2, .int v2_1), (3, .int s.1), (4, .int s.2.1)] [] s.2.2 (LOOP (fun aq sq => Tu_leastRow_L19 v2_1 kx aq sq.1 sq.2.1 sq.2.2) n s) := by
  refine LOOP_rule (fun (s : Int32 × Int32 × Mem) o => G X ad mi_Tu_leastRow (φIM) 19 [(0, .ref (ad 16)), (1, .ref (ad 1)), (2, .int v2_1), (3, .int s.1), (4, .int s.2.1)] [] s.2.2 o) (fun _ => G_none) (fun ag hag s => ?_)
  obtain ⟨v3_1, v4_1, M3⟩ := s
  show G X ad mi_Tu_leastRow (φIM) 19 [(0, .ref (ad 16)), (1, .ref (ad 1)), (2, .int v2_1), (3, .int v3_1), (4, .int v4_1)] [] M3 (Tu_leastRow_L19 v2_1 kx ag v3_1 v4_1 M3)
  unfold Tu_leastRow_L19
  refine G_iload dX8_leastRow_19 4 rfl ?_
  refine G_ldc wd_608 dX8_leastRow_21 ?_
  refine G_icmp_ge 94 dX8_leastRow_23 (by decide) (fun _ => ?_) (fun _ => ?_)
  refine G_sub [0, 1] rfl ?_
  exact hkx M3
  refine G_aload_n dX8_leastRow_26 0 rfl ?_
  refine G_getI hclX8 (by decide) rfl 3 (by decide) rfl wd_239 dX8_leastRow_27 ?_
  refine G_if_lt 94 dX8_leastRow_30 (by decide) (fun _ => ?_) (fun _ => ?_)
  refine G_sub [0, 1] rfl ?_
  exact hkx M3
  refine G_aload_n dX8_leastRow_33 0 rfl ?_
  refine G_getI hclX8 (by decide) rfl 3 (by decide) rfl wd_239 dX8_leastRow_34 ?_
  refine G_aload_n dX8_leastRow_37 1 rfl ?_
  refine G_getIN hclX7 (by decide) rfl 2 (by decide) rfl wn_145 dX8_leastRow_38 ?_
  refine G_icmp_ge 58 dX8_leastRow_41 (by decide) (fun _ => ?_) (fun _ => ?_)
  refine G_iload_n dX8_leastRow_58 3 rfl ?_
  refine G_jp (fun kq => ∀ (M4 : Mem), G X ad mi_Tu_leastRow (φIM) 76 [(0, .ref (ad 16)), (1, .ref (ad 1)), (2, .int v2_1), (4, .int v4_1)] [] M4 (kq M4)) (fun M4 => ?_) (fun k_1 hk_1 => ?_)
  refine G_iconst (v := 1) dX8_leastRow_76 rfl ?_
  refine G_istore_n 3 rfl dX8_leastRow_77 (by decide) (L' := [(3, .int 1), (0, .ref (ad 16)), (1, .ref (ad 1)), (2, .int v2_1), (4, .int v4_1)]) rfl ?_
  refine G_aload_n dX8_leastRow_78 1 rfl ?_
  refine G_dup dX8_leastRow_79 rfl ?_
  refine G_getI hclX8 (by decide) rfl 3 (by decide) rfl wd_239 dX8_leastRow_80 ?_
  refine G_iconst (v := 1) dX8_leastRow_83 rfl ?_
  refine G_isub dX8_leastRow_84 ?_
  refine G_put hclX8 (by decide) rfl 3 (by decide) rfl rfl (by decide +kernel) wd_239 dX8_leastRow_85 (fun M5 => ?_)
  refine G_iinc (v4_1 + 1) dX8_leastRow_88 4 rfl rfl (by decide) (L' := [(4, .int (v4_1 + 1)), (3, .int 1), (0, .ref (ad 16)), (1, .ref (ad 1)), (2, .int v2_1)]) rfl ?_
  refine G_goto 19 dX8_leastRow_91 (by decide) ?_
  refine G_sub [2, 3, 4, 1, 0] rfl ?_
  exact hag (1, v4_1 + 1, M5)
  refine G_jp (fun kq => G X ad mi_Tu_leastRow (φIM) 71 [(0, .ref (ad 16)), (1, .ref (ad 1)), (2, .int v2_1), (4, .int v4_1)] [] M3 (kq)) ?_ (fun k_2 hk_2 => ?_)
  refine G_aload_n dX8_leastRow_71 0 rfl ?_
  refine G_aload_n dX8_leastRow_72 1 rfl ?_
  refine G_callV_V (m_Tu_keepBest M3) cal_Tu_keepBest ⟨Nat.le_of_ble_eq_true rfl, Nat.le_of_ble_eq_true rfl⟩ wd_685 hclX8 (by decide) rfl [.ref (ad 1)] rfl rfl rfl (Nat.le_of_ble_eq_true rfl) dX8_leastRow_73 (fun M6 => ?_)
  refine G_sub [0, 1, 2, 3] rfl ?_
  exact hk_1 M6
  refine G_if_eq 71 dX8_leastRow_59 (by decide) (fun _ => ?_) (fun _ => ?_)
  refine G_sub [0, 1, 2, 4] rfl ?_
  exact hk_2
  refine G_aload_n dX8_leastRow_62 0 rfl ?_
  refine G_aload_n dX8_leastRow_63 1 rfl ?_
  refine G_iload_n dX8_leastRow_64 2 rfl ?_
  refine G_callV_I (m_Tu_lessThanBest _ M3) cal_Tu_lessThanBest ⟨Nat.le_of_ble_eq_true rfl, Nat.le_of_ble_eq_true rfl⟩ wd_681 hclX8 (by decide) rfl [.ref (ad 1), .int v2_1] rfl rfl rfl (Nat.le_of_ble_eq_true rfl) dX8_leastRow_65 (fun r_2 => ?_)
  refine G_if_eq 76 dX8_leastRow_68 (by decide) (fun _ => ?_) (fun _ => ?_)
  refine G_sub [0, 1, 2, 4] rfl ?_
  exact hk_1 M3
  refine G_sub [0, 1, 2, 4] rfl ?_
  exact hk_2
  refine G_aload_n dX8_leastRow_44 0 rfl ?_
  refine G_aload_n dX8_leastRow_45 0 rfl ?_
  refine G_aload_n dX8_leastRow_46 1 rfl ?_
  refine G_iload_n dX8_leastRow_47 2 rfl ?_
  refine G_iload_n dX8_leastRow_48 3 rfl ?_
  refine G_callV_IM (m_Tu_nextInRow _ _ M3) cal_Tu_nextInRow ⟨Nat.le_of_ble_eq_true rfl, Nat.le_of_ble_eq_true rfl⟩ wd_669 hclX8 (by decide) rfl [.ref (ad 1), .int v2_1, .int v3_1] rfl rfl rfl (Nat.le_of_ble_eq_true rfl) dX8_leastRow_49 (fun r_3 M7 => ?_)
  refine G_callV_V (m_Tu_step _ M7) cal_Tu_step ⟨Nat.le_of_ble_eq_true rfl, Nat.le_of_ble_eq_true rfl⟩ wd_629 hclX8 (by decide) rfl [.int r_3] rfl rfl rfl (Nat.le_of_ble_eq_true rfl) dX8_leastRow_52 (fun M8 => ?_)
  refine G_goto 88 dX8_leastRow_55 (by decide) ?_
  refine G_iinc (v4_1 + 1) dX8_leastRow_88 4 rfl rfl (by decide) (L' := [(4, .int (v4_1 + 1)), (0, .ref (ad 16)), (1, .ref (ad 1)), (2, .int v2_1), (3, .int v3_1)]) rfl ?_
  refine G_goto 19 dX8_leastRow_91 (by decide) ?_
  refine G_sub [1, 2, 3, 4, 0] rfl ?_
  exact hag (v3_1, v4_1 + 1, M8)

set_option maxRecDepth 100000 in
set_option maxHeartbeats 4000000 in
theorem m_Tu_leastRow (M : Mem) : MC mi_Tu_leastRow (φIM) (fun ad => [.ref (ad 16), .ref (ad 1)]) M (Tu_leastRow M) := by
  refine MC_of rfl (by decide +kernel) (fun ad => [(0, .ref (ad 16)), (1, .ref (ad 1))]) (fun _ => rfl) (fun _ => Nat.le_of_ble_eq_true rfl) (fun X ad => ?_)
  show G X ad mi_Tu_leastRow (φIM) 0 [(0, .ref (ad 16)), (1, .ref (ad 1))] [] M _
  unfold Tu_leastRow
  refine G_aload_n dX8_leastRow_0 0 rfl ?_
  refine G_aload_n dX8_leastRow_1 1 rfl ?_
  refine G_callV_V (m_Tu_findTwins M) cal_Tu_findTwins ⟨Nat.le_of_ble_eq_true rfl, Nat.le_of_ble_eq_true rfl⟩ wd_656 hclX8 (by decide) rfl [.ref (ad 1)] rfl rfl rfl (Nat.le_of_ble_eq_true rfl) dX8_leastRow_2 (fun M1 => ?_)
  refine G_aload_n dX8_leastRow_5 1 rfl ?_
  refine G_callS_I (m_Tu_firstKind M1) cal_Tu_firstKind ⟨Nat.le_of_ble_eq_true rfl, Nat.le_of_ble_eq_true rfl⟩ wd_661 rfl rfl (Nat.le_of_ble_eq_true rfl) dX8_leastRow_6 (fun r_1 => ?_)
  refine G_istore_n 2 rfl dX8_leastRow_9 (by decide) (L' := [(2, .int r_1), (0, .ref (ad 16)), (1, .ref (ad 1))]) rfl ?_
  refine G_iconst (v := 0) dX8_leastRow_10 rfl ?_
  refine G_istore_n 3 rfl dX8_leastRow_11 (by decide) (L' := [(3, .int 0), (2, .int r_1), (0, .ref (ad 16)), (1, .ref (ad 1))]) rfl ?_
  refine G_aload_n dX8_leastRow_12 2 rfl ?_
  refine G_callV_V (m_Tu_begin M1) cal_Tu_begin ⟨Nat.le_of_ble_eq_true rfl, Nat.le_of_ble_eq_true rfl⟩ wd_603 hclX8 (by decide) rfl [] rfl rfl rfl (Nat.le_of_ble_eq_true rfl) dX8_leastRow_13 (fun M2 => ?_)
  refine G_iconst (v := 0) dX8_leastRow_16 rfl ?_
  refine G_istore dX8_leastRow_17 (by decide) (L' := [(4, .int 0), (3, .int 0), (2, .int r_1), (0, .ref (ad 16)), (1, .ref (ad 1))]) rfl ?_
  refine G_sub [3, 4, 2, 1, 0] rfl ?_
  refine w_Tu_leastRow_L19 X ad r_1 _ (fun M9 => ?_) _ _
  refine G_aload_n dX8_leastRow_94 0 rfl ?_
  refine G_aload_n dX8_leastRow_95 1 rfl ?_
  refine G_callV_I (m_Tu_bestAsNumber M9) cal_Tu_bestAsNumber ⟨Nat.le_of_ble_eq_true rfl, Nat.le_of_ble_eq_true rfl⟩ wd_689 hclX8 (by decide) rfl [.ref (ad 1)] rfl rfl rfl (Nat.le_of_ble_eq_true rfl) dX8_leastRow_96 (fun r_4 => ?_)
  exact G_ireturn rfl rfl dX8_leastRow_99 rfl

set_option maxRecDepth 100000 in
set_option maxHeartbeats 4000000 in
theorem m_SP_form (M : Mem) : MC mi_SP_form (φIM) (fun ad => [.ref (ad 0)]) M (SP_form M) := by
  refine MC_of rfl (by decide +kernel) (fun ad => [(0, .ref (ad 0))]) (fun _ => rfl) (fun _ => Nat.le_of_ble_eq_true rfl) (fun X ad => ?_)
  show G X ad mi_SP_form (φIM) 0 [(0, .ref (ad 0))] [] M _
  unfold SP_form
  refine G_aload_n dX9_form_0 0 rfl ?_
  refine G_aload_n dX9_form_1 0 rfl ?_
  refine G_getI hclX9 (by decide) rfl 12 (by decide) rfl wd_319 dX9_form_2 ?_
  refine G_callV_V (m_SP_lookAt _ M) cal_SP_lookAt ⟨Nat.le_of_ble_eq_true rfl, Nat.le_of_ble_eq_true rfl⟩ wd_468 hclX9 (by decide) rfl [.int (M 0 12)] rfl rfl rfl (Nat.le_of_ble_eq_true rfl) dX9_form_5 (fun M1 => ?_)
  refine G_aload_n dX9_form_8 0 rfl ?_
  refine G_getR hclX9 (by decide) rfl 5 (by decide) rfl wd_312 dX9_form_9 ?_
  refine G_aload_n dX9_form_12 0 rfl ?_
  refine G_getR hclX9 (by decide) rfl 0 (by decide) rfl wd_307 dX9_form_13 ?_
  refine G_callVN_IM (m_Tu_leastRow M1) cal_Tu_leastRow ⟨Nat.le_of_ble_eq_true rfl, Nat.le_of_ble_eq_true rfl⟩ wn_652 hclX8 (by decide) rfl [.ref (ad 1)] rfl rfl rfl (Nat.le_of_ble_eq_true rfl) dX9_form_16 (fun r_1 M2 => ?_)
  exact G_ireturn rfl rfl dX9_form_19 rfl

set_option maxRecDepth 100000 in
set_option maxHeartbeats 4000000 in
theorem m_Pa_allInOne (k0 : Nat) (hk0 : isP k0) (v1 : Int32) (M : Mem) : MC mi_Pa_allInOne (φV) (fun ad => [.ref (ad k0), .int v1]) M (Pa_allInOne k0 v1 M) := by
  refine MC_of rfl (by decide +kernel) (fun ad => [(0, .ref (ad k0)), (1, .int v1)]) (fun _ => rfl) (fun _ => Nat.le_of_ble_eq_true rfl) (fun X ad => ?_)
  show G X ad mi_Pa_allInOne (φV) 0 [(0, .ref (ad k0)), (1, .int v1)] [] M _
  unfold Pa_allInOne
  refine G_aload_n dX3_allInOne_0 0 rfl ?_
  refine G_iload_n dX3_allInOne_1 1 rfl ?_
  refine G_put hclX3 (Nat.lt_of_succ_lt hk0.1) hk0.2.1 1 (by decide) rfl rfl (by decide +kernel) wd_285 dX3_allInOne_2 (fun M1 => ?_)
  refine G_aload_n dX3_allInOne_5 0 rfl ?_
  refine G_iconst (v := 1) dX3_allInOne_6 rfl ?_
  refine G_put hclX3 (Nat.lt_of_succ_lt hk0.1) hk0.2.1 2 (by decide) rfl rfl (by decide +kernel) wd_287 dX3_allInOne_7 (fun M2 => ?_)
  refine G_aload_n dX3_allInOne_10 0 rfl ?_
  refine G_getR hclX3 (Nat.lt_of_succ_lt hk0.1) hk0.2.1 0 (by decide) rfl wd_284 dX3_allInOne_11 ?_
  refine G_callSN_V (m_SP_wipe (k0 + 1) hk0.a M2) cal_SP_wipe ⟨Nat.le_of_ble_eq_true rfl, Nat.le_of_ble_eq_true rfl⟩ wn_706 rfl rfl (Nat.le_of_ble_eq_true rfl) dX3_allInOne_14 (fun M3 => ?_)
  exact G_return rfl rfl dX3_allInOne_17 rfl

set_option maxRecDepth 100000 in
set_option maxHeartbeats 4000000 in
theorem m_SP_addTo (k0 : Nat) (hk0 : isA k0) (v1 : Int32) (v2 : Int32) (M : Mem) : MC mi_SP_addTo (φV) (fun ad => [.ref (ad k0), .int v1, .int v2]) M (SP_addTo k0 v1 v2 M) := by
  refine MC_of rfl (by decide +kernel) (fun ad => [(0, .ref (ad k0)), (1, .int v1), (2, .int v2)]) (fun _ => rfl) (fun _ => Nat.le_of_ble_eq_true rfl) (fun X ad => ?_)
  show G X ad mi_SP_addTo (φV) 0 [(0, .ref (ad k0)), (1, .int v1), (2, .int v2)] [] M _
  unfold SP_addTo
  refine G_aload_n dX9_addTo_0 0 rfl ?_
  refine G_iload_n dX9_addTo_1 1 rfl ?_
  refine G_aload_n dX9_addTo_2 0 rfl ?_
  refine G_iload_n dX9_addTo_3 1 rfl ?_
  refine G_callS_I (m_SP_at k0 hk0 _ M) cal_SP_at ⟨Nat.le_of_ble_eq_true rfl, Nat.le_of_ble_eq_true rfl⟩ wd_355 rfl rfl (Nat.le_of_ble_eq_true rfl) dX9_addTo_4 (fun r_1 => ?_)
  refine G_iload_n dX9_addTo_7 2 rfl ?_
  refine G_iadd dX9_addTo_8 ?_
  refine G_callS_V (m_SP_put k0 hk0 _ _ M) cal_SP_put ⟨Nat.le_of_ble_eq_true rfl, Nat.le_of_ble_eq_true rfl⟩ wd_358 rfl rfl (Nat.le_of_ble_eq_true rfl) dX9_addTo_9 (fun M1 => ?_)
  exact G_return rfl rfl dX9_addTo_12 rfl

set_option maxRecDepth 100000 in
set_option maxHeartbeats 4000000 in
theorem w_Pa_topAhead_L4 (X : Cx) (ad : Nat → Nat) (v1_1 : Int32) (M : Mem) (kx : Int32 → Option Int32) (hkx : ∀ (e2 : Int32), G X ad mi_Pa_topAhead (φI M) 25 [(2, .int e2)] [] M (kx e2)) : ∀ (n : Nat) (s : Int32 × Int32), G X ad mi_Pa_topAhead (φI M) 4 [(0, .ref (ad 26)), (1, .int v1_1), (2, .int s.1), (3, .int s.2)] [] M (LOOP (fun aq sq => Pa_topAhead_L4 v1_1 M kx aq sq.1 sq.2) n s) := by
  refine LOOP_rule (fun (s : Int32 × Int32) o => G X ad mi_Pa_topAhead (φI M) 4 [(0, .ref (ad 26)), (1, .int v1_1), (2, .int s.1), (3, .int s.2)] [] M o) (fun _ => G_none) (fun ag hag s => ?_)
  obtain ⟨v2_1, v3_1⟩ := s
  show G X ad mi_Pa_topAhead (φI M) 4 [(0, .ref (ad 26)), (1, .int v1_1), (2, .int v2_1), (3, .int v3_1)] [] M (Pa_topAhead_L4 v1_1 M kx ag v2_1 v3_1)
  unfold Pa_topAhead_L4
  refine G_iload_n dX3_topAhead_4 3 rfl ?_
  refine G_iload_n dX3_topAhead_5 1 rfl ?_
  refine G_icmp_ge 25 dX3_topAhead_6 (by decide) (fun _ => ?_) (fun _ => ?_)
  refine G_sub [2] rfl ?_
  exact hkx v2_1
  refine G_iload_n dX3_topAhead_9 2 rfl ?_
  refine G_aload_n dX3_topAhead_10 0 rfl ?_
  refine G_iload_n dX3_topAhead_11 3 rfl ?_
  refine G_callV_I (m_Pa_of 26 isP_26 _ M) cal_Pa_of ⟨Nat.le_of_ble_eq_true rfl, Nat.le_of_ble_eq_true rfl⟩ wd_506 hclX3 (by decide) rfl [.int v3_1] rfl rfl rfl (Nat.le_of_ble_eq_true rfl) dX3_topAhead_12 (fun r_1 => ?_)
  refine G_mmax wd_511 (Nat.le_of_ble_eq_true rfl) (Nat.le_of_ble_eq_true rfl) dX3_topAhead_15 ?_
  refine G_nmI (fun v2_2 => ?_)
  refine G_istore_n 2 rfl dX3_topAhead_18 (by decide) (L' := [(2, .int v2_2), (0, .ref (ad 26)), (1, .int v1_1), (3, .int v3_1)]) rfl ?_
  refine G_iinc (v3_1 + 1) dX3_topAhead_19 3 rfl rfl (by decide) (L' := [(3, .int (v3_1 + 1)), (2, .int v2_2), (0, .ref (ad 26)), (1, .int v1_1)]) rfl ?_
  refine G_goto 4 dX3_topAhead_22 (by decide) ?_
  refine G_sub [2, 3, 1, 0] rfl ?_
  exact hag (v2_2, v3_1 + 1)

set_option maxRecDepth 100000 in
set_option maxHeartbeats 4000000 in
theorem m_Pa_topAhead (v1 : Int32) (M : Mem) : MC mi_Pa_topAhead (φI M) (fun ad => [.ref (ad 26), .int v1]) M (Pa_topAhead v1 M) := by
  refine MC_of rfl (by decide +kernel) (fun ad => [(0, .ref (ad 26)), (1, .int v1)]) (fun _ => rfl) (fun _ => Nat.le_of_ble_eq_true rfl) (fun X ad => ?_)
  show G X ad mi_Pa_topAhead (φI M) 0 [(0, .ref (ad 26)), (1, .int v1)] [] M _
  unfold Pa_topAhead
  refine G_iconst (v := 0) dX3_topAhead_0 rfl ?_
  refine G_istore_n 2 rfl dX3_topAhead_1 (by decide) (L' := [(2, .int 0), (0, .ref (ad 26)), (1, .int v1)]) rfl ?_
  refine G_iconst (v := 0) dX3_topAhead_2 rfl ?_
  refine G_istore_n 3 rfl dX3_topAhead_3 (by decide) (L' := [(3, .int 0), (2, .int 0), (0, .ref (ad 26)), (1, .int v1)]) rfl ?_
  refine G_sub [2, 3, 1, 0] rfl ?_
  refine w_Pa_topAhead_L4 X ad v1 M _ (fun v2_3 => ?_) _ _
  refine G_iload_n dX3_topAhead_25 0 rfl ?_
  exact G_ireturn rfl rfl dX3_topAhead_26 rfl

set_option maxRecDepth 100000 in
set_option maxHeartbeats 4000000 in
theorem w_Pa_forward_L37 (X : Cx) (ad : Nat → Nat) (kx : Mem → Option (Int32 × Mem)) (hkx : ∀ (Me : Mem), G X ad mi_Pa_forward (φIM) 60 [(0, .ref (ad 26))] [] Me (kx Me)) : ∀ (n : Nat) (s : Int32 × Mem), G X ad mi_Pa_forward (φIM) 37 [(0, .ref (ad 26)), (2, .int s.1)] [] s.2 (LOOP (fun aq sq => Pa_forward_L37 kx aq sq.1 sq.2) n s) := by
  refine LOOP_rule (fun (s : Int32 × Mem) o => G X ad mi_Pa_forward (φIM) 37 [(0, .ref (ad 26)), (2, .int s.1)] [] s.2 o) (fun _ => G_none) (fun ag hag s => ?_)
  obtain ⟨v2_2, M2⟩ := s
  show G X ad mi_Pa_forward (φIM) 37 [(0, .ref (ad 26)), (2, .int v2_2)] [] M2 (Pa_forward_L37 kx ag v2_2 M2)
  unfold Pa_forward_L37
  refine G_iload_n dX3_forward_37 1 rfl ?_
  refine G_aload_n dX3_forward_38 0 rfl ?_
  refine G_getI hclX3 (by decide) rfl 1 (by decide) rfl wd_285 dX3_forward_39 ?_
  refine G_icmp_ge 60 dX3_forward_42 (by decide) (fun _ => ?_) (fun _ => ?_)
  refine G_sub [0] rfl ?_
  exact hkx M2
  refine G_aload_n dX3_forward_45 0 rfl ?_
  refine G_getR hclX3 (by decide) rfl 0 (by decide) rfl wd_284 dX3_forward_46 ?_
  refine G_iload_n dX3_forward_49 1 rfl ?_
  refine G_iconst (v := 0) dX3_forward_50 rfl ?_
  refine G_callSN_V (m_SP_put 27 isA_27 _ _ M2) cal_SP_put ⟨Nat.le_of_ble_eq_true rfl, Nat.le_of_ble_eq_true rfl⟩ wn_505 rfl rfl (Nat.le_of_ble_eq_true rfl) dX3_forward_51 (fun M3 => ?_)
  refine G_iinc (v2_2 + 1) dX3_forward_54 1 rfl rfl (by decide) (L' := [(2, .int (v2_2 + 1)), (0, .ref (ad 26))]) rfl ?_
  refine G_goto 37 dX3_forward_57 (by decide) ?_
  refine G_sub [1, 0] rfl ?_
  exact hag (v2_2 + 1, M3)

set_option maxRecDepth 100000 in
set_option maxHeartbeats 4000000 in
theorem w_Pa_forward_L7 (X : Cx) (ad : Nat → Nat) (M : Mem) (kx : Option (Int32 × Mem)) (hkx : G X ad mi_Pa_forward (φIM) 82 [] [] M (kx)) : ∀ (n : Nat) (s : Int32), G X ad mi_Pa_forward (φIM) 7 [(0, .ref (ad 26)), (1, .int s)] [] M (LOOP (fun aq sq => Pa_forward_L7 M kx aq sq) n s) := by
  refine LOOP_rule (fun (s : Int32) o => G X ad mi_Pa_forward (φIM) 7 [(0, .ref (ad 26)), (1, .int s)] [] M o) (fun _ => G_none) (fun ag hag v1_2 => ?_)
  show G X ad mi_Pa_forward (φIM) 7 [(0, .ref (ad 26)), (1, .int v1_2)] [] M (Pa_forward_L7 M kx ag v1_2)
  unfold Pa_forward_L7
  refine G_iload_n dX3_forward_7 1 rfl ?_
  refine G_if_le 82 dX3_forward_8 (by decide) (fun _ => ?_) (fun _ => ?_)
  refine G_sub [] rfl ?_
  exact hkx
  refine G_aload_n dX3_forward_11 0 rfl ?_
  refine G_iload_n dX3_forward_12 1 rfl ?_
  refine G_callV_I (m_Pa_of 26 isP_26 _ M) cal_Pa_of ⟨Nat.le_of_ble_eq_true rfl, Nat.le_of_ble_eq_true rfl⟩ wd_506 hclX3 (by decide) rfl [.int v1_2] rfl rfl rfl (Nat.le_of_ble_eq_true rfl) dX3_forward_13 (fun r_1 => ?_)
  refine G_aload_n dX3_forward_16 0 rfl ?_
  refine G_iload_n dX3_forward_17 1 rfl ?_
  refine G_callV_I (m_Pa_topAhead _ M) cal_Pa_topAhead ⟨Nat.le_of_ble_eq_true rfl, Nat.le_of_ble_eq_true rfl⟩ wd_711 hclX3 (by decide) rfl [.int v1_2] rfl rfl rfl (Nat.le_of_ble_eq_true rfl) dX3_forward_18 (fun r_2 => ?_)
  refine G_icmp_gt 76 dX3_forward_21 (by decide) (fun _ => ?_) (fun _ => ?_)
  refine G_iinc (v1_2 + (-1)) dX3_forward_76 1 rfl rfl (by decide) (L' := [(1, .int (v1_2 + (-1))), (0, .ref (ad 26))]) rfl ?_
  refine G_goto 7 dX3_forward_79 (by decide) ?_
  refine G_sub [1, 0] rfl ?_
  exact hag (v1_2 + (-1))
  refine G_aload_n dX3_forward_24 0 rfl ?_
  refine G_getR hclX3 (by decide) rfl 0 (by decide) rfl wd_284 dX3_forward_25 ?_
  refine G_iload_n dX3_forward_28 1 rfl ?_
  refine G_iconst (v := 1) dX3_forward_29 rfl ?_
  refine G_callSN_V (m_SP_addTo 27 isA_27 _ _ M) cal_SP_addTo ⟨Nat.le_of_ble_eq_true rfl, Nat.le_of_ble_eq_true rfl⟩ wn_715 rfl rfl (Nat.le_of_ble_eq_true rfl) dX3_forward_30 (fun M1 => ?_)
  refine G_iload_n dX3_forward_33 1 rfl ?_
  refine G_iconst (v := 1) dX3_forward_34 rfl ?_
  refine G_iadd dX3_forward_35 ?_
  refine G_nmI (fun v2_1 => ?_)
  refine G_istore_n 2 rfl dX3_forward_36 (by decide) (L' := [(2, .int v2_1), (0, .ref (ad 26)), (1, .int v1_2)]) rfl ?_
  refine G_sub [1, 0] rfl ?_
  refine w_Pa_forward_L37 X ad _ (fun M4 => ?_) _ _
  refine G_aload_n dX3_forward_60 0 rfl ?_
  refine G_aload_n dX3_forward_61 0 rfl ?_
  refine G_aload_n dX3_forward_62 0 rfl ?_
  refine G_getI hclX3 (by decide) rfl 1 (by decide) rfl wd_285 dX3_forward_63 ?_
  refine G_callV_I (m_Pa_topAhead _ M4) cal_Pa_topAhead ⟨Nat.le_of_ble_eq_true rfl, Nat.le_of_ble_eq_true rfl⟩ wd_711 hclX3 (by decide) rfl [.int (M4 26 1)] rfl rfl rfl (Nat.le_of_ble_eq_true rfl) dX3_forward_66 (fun r_3 => ?_)
  refine G_iconst (v := 1) dX3_forward_69 rfl ?_
  refine G_iadd dX3_forward_70 ?_
  refine G_put hclX3 (by decide) rfl 2 (by decide) rfl rfl (by decide +kernel) wd_287 dX3_forward_71 (fun M5 => ?_)
  refine G_iconst (v := 1) dX3_forward_74 rfl ?_
  exact G_zreturn rfl rfl dX3_forward_75 rfl

set_option maxRecDepth 100000 in
set_option maxHeartbeats 4000000 in
theorem m_Pa_forward (M : Mem) : MC mi_Pa_forward (φIM) (fun ad => [.ref (ad 26)]) M (Pa_forward M) := by
  refine MC_of rfl (by decide +kernel) (fun ad => [(0, .ref (ad 26))]) (fun _ => rfl) (fun _ => Nat.le_of_ble_eq_true rfl) (fun X ad => ?_)
  show G X ad mi_Pa_forward (φIM) 0 [(0, .ref (ad 26))] [] M _
  unfold Pa_forward
  refine G_aload_n dX3_forward_0 0 rfl ?_
  refine G_getI hclX3 (by decide) rfl 1 (by decide) rfl wd_285 dX3_forward_1 ?_
  refine G_iconst (v := 1) dX3_forward_4 rfl ?_
  refine G_isub dX3_forward_5 ?_
  refine G_nmI (fun v1_1 => ?_)
  refine G_istore_n 1 rfl dX3_forward_6 (by decide) (L' := [(1, .int v1_1), (0, .ref (ad 26))]) rfl ?_
  refine G_sub [1, 0] rfl ?_
  refine w_Pa_forward_L7 X ad M _ ?_ _ _
  refine G_iconst (v := 0) dX3_forward_82 rfl ?_
  exact G_zreturn rfl rfl dX3_forward_83 rfl

set_option maxRecDepth 100000 in
set_option maxHeartbeats 4000000 in
theorem w_SP_next_L52 (X : Cx) (ad : Nat → Nat) (v1_1 : Int32) (v2_1 : Int32) (kx : Mem → Option (Int32 × Mem)) (hkx : ∀ (Me : Mem), G X ad mi_SP_next (φIM) 117 [] [] Me (kx Me)) : ∀ (n : Nat) (s : Int32 × Int32 × Mem), G X ad mi_SP_next (φIM) 52 [(0, .ref (ad 0)), (1, .int v1_1), (2, .int v2_1), (3, .int s.1), (4, .int s.2.1)] [] s.2.2 (LOOP (fun aq sq => SP_next_L52 v1_1 v2_1 kx aq sq.1 sq.2.1 sq.2.2) n s) := by
  refine LOOP_rule (fun (s : Int32 × Int32 × Mem) o => G X ad mi_SP_next (φIM) 52 [(0, .ref (ad 0)), (1, .int v1_1), (2, .int v2_1), (3, .int s.1), (4, .int s.2.1)] [] s.2.2 o) (fun _ => G_none) (fun ag hag s => ?_)
  obtain ⟨v3_1, v4_1, M4⟩ := s
  show G X ad mi_SP_next (φIM) 52 [(0, .ref (ad 0)), (1, .int v1_1), (2, .int v2_1), (3, .int v3_1), (4, .int v4_1)] [] M4 (SP_next_L52 v1_1 v2_1 kx ag v3_1 v4_1 M4)
  unfold SP_next_L52
  refine G_iload dX9_next_52 4 rfl ?_
  refine G_sipush (v := 877) dX9_next_54 rfl ?_
  refine G_icmp_ge 117 dX9_next_57 (by decide) (fun _ => ?_) (fun _ => ?_)
  refine G_sub [] rfl ?_
  exact hkx M4
  refine G_iload_n dX9_next_60 3 rfl ?_
  refine G_if_eq 117 dX9_next_61 (by decide) (fun _ => ?_) (fun _ => ?_)
  refine G_sub [] rfl ?_
  exact hkx M4
  refine G_aload_n dX9_next_64 0 rfl ?_
  refine G_getR hclX9 (by decide) rfl 8 (by decide) rfl wd_315 dX9_next_65 ?_
  refine G_callVN_I (m_Pa_number 26 isP_26 M4) cal_Pa_number ⟨Nat.le_of_ble_eq_true rfl, Nat.le_of_ble_eq_true rfl⟩ wn_586 hclX3 (by decide) rfl [] rfl rfl rfl (Nat.le_of_ble_eq_true rfl) dX9_next_68 (fun r_3 => ?_)
  refine G_istore dX9_next_71 (by decide) (L' := [(5, .int r_3), (0, .ref (ad 0)), (1, .int v1_1), (2, .int v2_1), (3, .int v3_1), (4, .int v4_1)]) rfl ?_
  refine G_iload dX9_next_73 0 rfl ?_
  refine G_iload_n dX9_next_75 3 rfl ?_
  refine G_jp (fun kq => ∀ (M5 : Mem), G X ad mi_SP_next (φIM) 103 [(0, .ref (ad 0)), (1, .int v1_1), (2, .int v2_1), (4, .int v4_1)] [] M5 (kq M5)) (fun M5 => ?_) (fun k_1 hk_1 => ?_)
  refine G_aload_n dX9_next_103 0 rfl ?_
  refine G_getR hclX9 (by decide) rfl 8 (by decide) rfl wd_315 dX9_next_104 ?_
  refine G_callVN_IM (m_Pa_forward M5) cal_Pa_forward ⟨Nat.le_of_ble_eq_true rfl, Nat.le_of_ble_eq_true rfl⟩ wn_707 hclX3 (by decide) rfl [] rfl rfl rfl (Nat.le_of_ble_eq_true rfl) dX9_next_107 (fun r_4 M6 => ?_)
  refine G_istore_n 3 rfl dX9_next_110 (by decide) (L' := [(3, .int r_4), (0, .ref (ad 0)), (1, .int v1_1), (2, .int v2_1), (4, .int v4_1)]) rfl ?_
  refine G_iinc (v4_1 + 1) dX9_next_111 4 rfl rfl (by decide) (L' := [(4, .int (v4_1 + 1)), (3, .int r_4), (0, .ref (ad 0)), (1, .int v1_1), (2, .int v2_1)]) rfl ?_
  refine G_goto 52 dX9_next_114 (by decide) ?_
  refine G_sub [2, 3, 4, 1, 0] rfl ?_
  exact hag (r_4, v4_1 + 1, M6)
  refine G_icmp_le 103 dX9_next_76 (by decide) (fun _ => ?_) (fun _ => ?_)
  refine G_sub [1, 2, 3, 5] rfl ?_
  exact hk_1 M4
  refine G_aload_n dX9_next_79 1 rfl ?_
  refine G_getR hclX9 (by decide) rfl 4 (by decide) rfl wd_311 dX9_next_80 ?_
  refine G_aload_n dX9_next_83 1 rfl ?_
  refine G_getR hclX9 (by decide) rfl 0 (by decide) rfl wd_307 dX9_next_84 ?_
  refine G_aload_n dX9_next_87 1 rfl ?_
  refine G_getR hclX9 (by decide) rfl 8 (by decide) rfl wd_315 dX9_next_88 ?_
  refine G_iload_n dX9_next_91 2 rfl ?_
  refine G_callVN_IM (m_Sa_firstUnlike _ M4) cal_Sa_firstUnlike ⟨Nat.le_of_ble_eq_true rfl, Nat.le_of_ble_eq_true rfl⟩ wn_521 hclX4 (by decide) rfl [.ref (ad 1), .ref (ad 26), .int v1_1] rfl rfl rfl (Nat.le_of_ble_eq_true rfl) dX9_next_92 (fun r_5 M7 => ?_)
  refine G_bipush (v := -9) dX9_next_95 rfl ?_
  refine G_icmp_ne 103 dX9_next_97 (by decide) (fun _ => ?_) (fun _ => ?_)
  refine G_iload dX9_next_100 0 rfl ?_
  exact G_ireturn rfl rfl dX9_next_102 rfl
  refine G_sub [1, 2, 3, 5] rfl ?_
  exact hk_1 M7

set_option maxRecDepth 100000 in
set_option maxHeartbeats 4000000 in
theorem m_SP_next (v1 : Int32) (v2 : Int32) (M : Mem) : MC mi_SP_next (φIM) (fun ad => [.ref (ad 0), .int v1, .int v2]) M (SP_next v1 v2 M) := by
  refine MC_of rfl (by decide +kernel) (fun ad => [(0, .ref (ad 0)), (1, .int v1), (2, .int v2)]) (fun _ => rfl) (fun _ => Nat.le_of_ble_eq_true rfl) (fun X ad => ?_)
  show G X ad mi_SP_next (φIM) 0 [(0, .ref (ad 0)), (1, .int v1), (2, .int v2)] [] M _
  unfold SP_next
  refine G_iload_n dX9_next_0 1 rfl ?_
  refine G_callS_I (m_SP_isSameness _ M) cal_SP_isSameness ⟨Nat.le_of_ble_eq_true rfl, Nat.le_of_ble_eq_true rfl⟩ wd_518 rfl rfl (Nat.le_of_ble_eq_true rfl) dX9_next_1 (fun r_1 => ?_)
  refine G_if_ne 13 dX9_next_4 (by decide) (fun _ => ?_) (fun _ => ?_)
  refine G_aload_n dX9_next_7 0 rfl ?_
  refine G_iconst (v := -1) dX9_next_8 rfl ?_
  refine G_callV_IM (m_SP_refuse _ M) cal_SP_refuse ⟨Nat.le_of_ble_eq_true rfl, Nat.le_of_ble_eq_true rfl⟩ wd_351 hclX9 (by decide) rfl [.int (-1)] rfl rfl rfl (Nat.le_of_ble_eq_true rfl) dX9_next_9 (fun r_2 M1 => ?_)
  exact G_ireturn rfl rfl dX9_next_12 rfl
  refine G_iload_n dX9_next_13 2 rfl ?_
  refine G_iconst (v := -1) dX9_next_14 rfl ?_
  refine G_icmp_ge 25 dX9_next_15 (by decide) (fun _ => ?_) (fun _ => ?_)
  refine G_aload_n dX9_next_25 0 rfl ?_
  refine G_aload_n dX9_next_26 0 rfl ?_
  refine G_getI hclX9 (by decide) rfl 12 (by decide) rfl wd_319 dX9_next_27 ?_
  refine G_callV_V (m_SP_lookAt _ M) cal_SP_lookAt ⟨Nat.le_of_ble_eq_true rfl, Nat.le_of_ble_eq_true rfl⟩ wd_468 hclX9 (by decide) rfl [.int (M 0 12)] rfl rfl rfl (Nat.le_of_ble_eq_true rfl) dX9_next_30 (fun M2 => ?_)
  refine G_aload_n dX9_next_33 0 rfl ?_
  refine G_getR hclX9 (by decide) rfl 8 (by decide) rfl wd_315 dX9_next_34 ?_
  refine G_aload_n dX9_next_37 0 rfl ?_
  refine G_getR hclX9 (by decide) rfl 0 (by decide) rfl wd_307 dX9_next_38 ?_
  refine G_getIN hclX7 (by decide) rfl 2 (by decide) rfl wn_147 dX9_next_41 ?_
  refine G_callVN_V (m_Pa_allInOne 26 isP_26 _ M2) cal_Pa_allInOne ⟨Nat.le_of_ble_eq_true rfl, Nat.le_of_ble_eq_true rfl⟩ wn_702 hclX3 (by decide) rfl [.int (M2 1 2)] rfl rfl rfl (Nat.le_of_ble_eq_true rfl) dX9_next_44 (fun M3 => ?_)
  refine G_iconst (v := 1) dX9_next_47 rfl ?_
  refine G_istore_n 3 rfl dX9_next_48 (by decide) (L' := [(3, .int 1), (0, .ref (ad 0)), (1, .int v1), (2, .int v2)]) rfl ?_
  refine G_iconst (v := 0) dX9_next_49 rfl ?_
  refine G_istore dX9_next_50 (by decide) (L' := [(4, .int 0), (3, .int 1), (0, .ref (ad 0)), (1, .int v1), (2, .int v2)]) rfl ?_
  refine G_sub [2, 3, 4, 1, 0] rfl ?_
  refine w_SP_next_L52 X ad v1 v2 _ (fun M8 => ?_) _ _
  refine G_bipush (v := -9) dX9_next_117 rfl ?_
  exact G_ireturn rfl rfl dX9_next_119 rfl
  refine G_aload_n dX9_next_18 0 rfl ?_
  refine G_bipush (v := -4) dX9_next_19 rfl ?_
  refine G_callV_IM (m_SP_refuse _ M) cal_SP_refuse ⟨Nat.le_of_ble_eq_true rfl, Nat.le_of_ble_eq_true rfl⟩ wd_351 hclX9 (by decide) rfl [.int (-4)] rfl rfl rfl (Nat.le_of_ble_eq_true rfl) dX9_next_21 (fun r_6 M9 => ?_)
  exact G_ireturn rfl rfl dX9_next_24 rfl

set_option maxRecDepth 100000 in
set_option maxHeartbeats 4000000 in
theorem w_SP_all_L42 (X : Cx) (ad : Nat → Nat) (v1_1 : Int32) (kx : Int32 → Mem → Option (Int32 × Mem)) (hkx : ∀ (e2 : Int32) (Me : Mem), G X ad mi_SP_all (φIM) 92 [(2, .int e2)] [] Me (kx e2 Me)) : ∀ (n : Nat) (s : Int32 × Int32 × Int32 × Mem), G X ad mi_SP_all (φIM) 42 [(0, .ref (ad 0)), (1, .int v1_1), (2, .int s.1), (3, .int s.2.1), (4, .int s.2.2.1)] [] s.2.2.2 (LOOP (fun aq sq => SP_all_L42 v1_1 kx aq sq.1 sq.2.1 sq.2.2.1 sq.2.2.2) n s) := by
  refine LOOP_rule (fun (s : Int32 × Int32 × Int32 × Mem) o => G X ad mi_SP_all (φIM) 42 [(0, .ref (ad 0)), (1, .int v1_1), (2, .int s.1), (3, .int s.2.1), (4, .int s.2.2.1)] [] s.2.2.2 o) (fun _ => G_none) (fun ag hag s => ?_)
  obtain ⟨v2_1, v3_1, v4_1, M4⟩ := s
  show G X ad mi_SP_all (φIM) 42 [(0, .ref (ad 0)), (1, .int v1_1), (2, .int v2_1), (3, .int v3_1), (4, .int v4_1)] [] M4 (SP_all_L42 v1_1 kx ag v2_1 v3_1 v4_1 M4)
  unfold SP_all_L42
  refine G_iload dX9_all_42 4 rfl ?_
  refine G_sipush (v := 877) dX9_all_44 rfl ?_
  refine G_icmp_ge 92 dX9_all_47 (by decide) (fun _ => ?_) (fun _ => ?_)
  refine G_sub [2] rfl ?_
  exact hkx v2_1 M4
  refine G_iload_n dX9_all_50 3 rfl ?_
  refine G_if_eq 92 dX9_all_51 (by decide) (fun _ => ?_) (fun _ => ?_)
  refine G_sub [2] rfl ?_
  exact hkx v2_1 M4
  refine G_aload_n dX9_all_54 0 rfl ?_
  refine G_getR hclX9 (by decide) rfl 4 (by decide) rfl wd_311 dX9_all_55 ?_
  refine G_aload_n dX9_all_58 0 rfl ?_
  refine G_getR hclX9 (by decide) rfl 0 (by decide) rfl wd_307 dX9_all_59 ?_
  refine G_aload_n dX9_all_62 0 rfl ?_
  refine G_getR hclX9 (by decide) rfl 8 (by decide) rfl wd_315 dX9_all_63 ?_
  refine G_iload_n dX9_all_66 1 rfl ?_
  refine G_callVN_IM (m_Sa_firstUnlike _ M4) cal_Sa_firstUnlike ⟨Nat.le_of_ble_eq_true rfl, Nat.le_of_ble_eq_true rfl⟩ wn_521 hclX4 (by decide) rfl [.ref (ad 1), .ref (ad 26), .int v1_1] rfl rfl rfl (Nat.le_of_ble_eq_true rfl) dX9_all_67 (fun r_3 M5 => ?_)
  refine G_bipush (v := -9) dX9_all_70 rfl ?_
  refine G_jp (fun kq => ∀ (v2_2 : Int32), G X ad mi_SP_all (φIM) 78 [(0, .ref (ad 0)), (1, .int v1_1), (2, .int v2_2), (4, .int v4_1)] [] M5 (kq v2_2)) (fun v2_2 => ?_) (fun k_1 hk_1 => ?_)
  refine G_aload_n dX9_all_78 0 rfl ?_
  refine G_getR hclX9 (by decide) rfl 8 (by decide) rfl wd_315 dX9_all_79 ?_
  refine G_callVN_IM (m_Pa_forward M5) cal_Pa_forward ⟨Nat.le_of_ble_eq_true rfl, Nat.le_of_ble_eq_true rfl⟩ wn_707 hclX3 (by decide) rfl [] rfl rfl rfl (Nat.le_of_ble_eq_true rfl) dX9_all_82 (fun r_4 M6 => ?_)
  refine G_istore_n 3 rfl dX9_all_85 (by decide) (L' := [(3, .int r_4), (0, .ref (ad 0)), (1, .int v1_1), (2, .int v2_2), (4, .int v4_1)]) rfl ?_
  refine G_iinc (v4_1 + 1) dX9_all_86 4 rfl rfl (by decide) (L' := [(4, .int (v4_1 + 1)), (3, .int r_4), (0, .ref (ad 0)), (1, .int v1_1), (2, .int v2_2)]) rfl ?_
  refine G_goto 42 dX9_all_89 (by decide) ?_
  refine G_sub [2, 3, 4, 1, 0] rfl ?_
  exact hag (v2_2, r_4, v4_1 + 1, M6)
  refine G_icmp_ne 78 dX9_all_72 (by decide) (fun _ => ?_) (fun _ => ?_)
  refine G_iinc (v2_1 + 1) dX9_all_75 2 rfl rfl (by decide) (L' := [(2, .int (v2_1 + 1)), (0, .ref (ad 0)), (1, .int v1_1), (3, .int v3_1), (4, .int v4_1)]) rfl ?_
  refine G_sub [1, 2, 0, 4] rfl ?_
  exact hk_1 (v2_1 + 1)
  refine G_sub [0, 1, 2, 4] rfl ?_
  exact hk_1 v2_1

set_option maxRecDepth 100000 in
set_option maxHeartbeats 4000000 in
theorem m_SP_all (v1 : Int32) (M : Mem) : MC mi_SP_all (φIM) (fun ad => [.ref (ad 0), .int v1]) M (SP_all v1 M) := by
  refine MC_of rfl (by decide +kernel) (fun ad => [(0, .ref (ad 0)), (1, .int v1)]) (fun _ => rfl) (fun _ => Nat.le_of_ble_eq_true rfl) (fun X ad => ?_)
  show G X ad mi_SP_all (φIM) 0 [(0, .ref (ad 0)), (1, .int v1)] [] M _
  unfold SP_all
  refine G_iload_n dX9_all_0 1 rfl ?_
  refine G_callS_I (m_SP_isSameness _ M) cal_SP_isSameness ⟨Nat.le_of_ble_eq_true rfl, Nat.le_of_ble_eq_true rfl⟩ wd_518 rfl rfl (Nat.le_of_ble_eq_true rfl) dX9_all_1 (fun r_1 => ?_)
  refine G_if_ne 13 dX9_all_4 (by decide) (fun _ => ?_) (fun _ => ?_)
  refine G_aload_n dX9_all_7 0 rfl ?_
  refine G_iconst (v := -1) dX9_all_8 rfl ?_
  refine G_callV_IM (m_SP_refuse _ M) cal_SP_refuse ⟨Nat.le_of_ble_eq_true rfl, Nat.le_of_ble_eq_true rfl⟩ wd_351 hclX9 (by decide) rfl [.int (-1)] rfl rfl rfl (Nat.le_of_ble_eq_true rfl) dX9_all_9 (fun r_2 M1 => ?_)
  exact G_ireturn rfl rfl dX9_all_12 rfl
  refine G_aload_n dX9_all_13 0 rfl ?_
  refine G_aload_n dX9_all_14 0 rfl ?_
  refine G_getI hclX9 (by decide) rfl 12 (by decide) rfl wd_319 dX9_all_15 ?_
  refine G_callV_V (m_SP_lookAt _ M) cal_SP_lookAt ⟨Nat.le_of_ble_eq_true rfl, Nat.le_of_ble_eq_true rfl⟩ wd_468 hclX9 (by decide) rfl [.int (M 0 12)] rfl rfl rfl (Nat.le_of_ble_eq_true rfl) dX9_all_18 (fun M2 => ?_)
  refine G_aload_n dX9_all_21 0 rfl ?_
  refine G_getR hclX9 (by decide) rfl 8 (by decide) rfl wd_315 dX9_all_22 ?_
  refine G_aload_n dX9_all_25 0 rfl ?_
  refine G_getR hclX9 (by decide) rfl 0 (by decide) rfl wd_307 dX9_all_26 ?_
  refine G_getIN hclX7 (by decide) rfl 2 (by decide) rfl wn_147 dX9_all_29 ?_
  refine G_callVN_V (m_Pa_allInOne 26 isP_26 _ M2) cal_Pa_allInOne ⟨Nat.le_of_ble_eq_true rfl, Nat.le_of_ble_eq_true rfl⟩ wn_702 hclX3 (by decide) rfl [.int (M2 1 2)] rfl rfl rfl (Nat.le_of_ble_eq_true rfl) dX9_all_32 (fun M3 => ?_)
  refine G_iconst (v := 0) dX9_all_35 rfl ?_
  refine G_istore_n 2 rfl dX9_all_36 (by decide) (L' := [(2, .int 0), (0, .ref (ad 0)), (1, .int v1)]) rfl ?_
  refine G_iconst (v := 1) dX9_all_37 rfl ?_
  refine G_istore_n 3 rfl dX9_all_38 (by decide) (L' := [(3, .int 1), (2, .int 0), (0, .ref (ad 0)), (1, .int v1)]) rfl ?_
  refine G_iconst (v := 0) dX9_all_39 rfl ?_
  refine G_istore dX9_all_40 (by decide) (L' := [(4, .int 0), (3, .int 1), (2, .int 0), (0, .ref (ad 0)), (1, .int v1)]) rfl ?_
  refine G_sub [3, 4, 2, 1, 0] rfl ?_
  refine w_SP_all_L42 X ad v1 _ (fun v2_3 M7 => ?_) _ _
  refine G_iload_n dX9_all_92 0 rfl ?_
  exact G_ireturn rfl rfl dX9_all_93 rfl

set_option maxRecDepth 100000 in
set_option maxHeartbeats 4000000 in
theorem w_Pa_cross_L24 (X : Cx) (ad : Nat → Nat) (k2 : Nat) (hk2 : isP k2) (v3_2 : Int32) (M2 : Mem) (kx : Int32 → Option Mem) (hkx : ∀ (e4 : Int32), G X ad mi_Pa_cross (φV) 65 [(0, .ref (ad 30)), (1, .ref (ad 26)), (2, .ref (ad k2)), (3, .int v3_2), (4, .int e4)] [] M2 (kx e4)) : ∀ (n : Nat) (s : Int32 × Int32), G X ad mi_Pa_cross (φV) 24 [(0, .ref (ad 30)), (1, .ref (ad 26)), (2, .ref (ad k2)), (3, .int v3_2), (4, .int s.1), (5, .int s.2)] [] M2 (LOOP (fun aq sq => Pa_cross_L24 k2 v3_2 M2 kx aq sq.1 sq.2) n s) := by
  refine LOOP_rule (fun (s : Int32 × Int32) o => G X ad mi_Pa_cross (φV) 24 [(0, .ref (ad 30)), (1, .ref (ad 26)), (2, .ref (ad k2)), (3, .int v3_2), (4, .int s.1), (5, .int s.2)] [] M2 o) (fun _ => G_none) (fun ag hag s => ?_)
  obtain ⟨v4_1, v5_1⟩ := s
  show G X ad mi_Pa_cross (φV) 24 [(0, .ref (ad 30)), (1, .ref (ad 26)), (2, .ref (ad k2)), (3, .int v3_2), (4, .int v4_1), (5, .int v5_1)] [] M2 (Pa_cross_L24 k2 v3_2 M2 kx ag v4_1 v5_1)
  unfold Pa_cross_L24
  refine G_iload dX3_cross_24 5 rfl ?_
  refine G_iload_n dX3_cross_26 3 rfl ?_
  refine G_icmp_ge 65 dX3_cross_27 (by decide) (fun _ => ?_) (fun _ => ?_)
  refine G_sub [0, 1, 2, 3, 4] rfl ?_
  exact hkx v4_1
  refine G_iload dX3_cross_30 4 rfl ?_
  refine G_if_ge 65 dX3_cross_32 (by decide) (fun _ => ?_) (fun _ => ?_)
  refine G_sub [0, 1, 2, 3, 4] rfl ?_
  exact hkx v4_1
  refine G_aload_n dX3_cross_35 1 rfl ?_
  refine G_iload_n dX3_cross_36 3 rfl ?_
  refine G_iload dX3_cross_37 5 rfl ?_
  refine G_callV_I (m_Pa_together 26 isP_26 _ _ M2) cal_Pa_together ⟨Nat.le_of_ble_eq_true rfl, Nat.le_of_ble_eq_true rfl⟩ wd_730 hclX3 (by decide) rfl [.int v3_2, .int v5_1] rfl rfl rfl (Nat.le_of_ble_eq_true rfl) dX3_cross_39 (fun r_1 => ?_)
  refine G_if_eq 59 dX3_cross_42 (by decide) (fun _ => ?_) (fun _ => ?_)
  refine G_iinc (v5_1 + 1) dX3_cross_59 5 rfl rfl (by decide) (L' := [(5, .int (v5_1 + 1)), (0, .ref (ad 30)), (1, .ref (ad 26)), (2, .ref (ad k2)), (3, .int v3_2), (4, .int v4_1)]) rfl ?_
  refine G_goto 24 dX3_cross_62 (by decide) ?_
  refine G_sub [1, 2, 3, 4, 5, 0] rfl ?_
  exact hag (v4_1, v5_1 + 1)
  refine G_aload_n dX3_cross_45 2 rfl ?_
  refine G_iload_n dX3_cross_46 3 rfl ?_
  refine G_iload dX3_cross_47 5 rfl ?_
  refine G_callV_I (m_Pa_together k2 hk2 _ _ M2) cal_Pa_together ⟨Nat.le_of_ble_eq_true rfl, Nat.le_of_ble_eq_true rfl⟩ wd_730 hclX3 (Nat.lt_of_succ_lt hk2.1) hk2.2.1 [.int v3_2, .int v5_1] rfl rfl rfl (Nat.le_of_ble_eq_true rfl) dX3_cross_49 (fun r_2 => ?_)
  refine G_if_eq 59 dX3_cross_52 (by decide) (fun _ => ?_) (fun _ => ?_)
  refine G_iinc (v5_1 + 1) dX3_cross_59 5 rfl rfl (by decide) (L' := [(5, .int (v5_1 + 1)), (0, .ref (ad 30)), (1, .ref (ad 26)), (2, .ref (ad k2)), (3, .int v3_2), (4, .int v4_1)]) rfl ?_
  refine G_goto 24 dX3_cross_62 (by decide) ?_
  refine G_sub [1, 2, 3, 4, 5, 0] rfl ?_
  exact hag (v4_1, v5_1 + 1)
  refine G_iload dX3_cross_55 5 rfl ?_
  refine G_istore dX3_cross_57 (by decide) (L' := [(4, .int v5_1), (0, .ref (ad 30)), (1, .ref (ad 26)), (2, .ref (ad k2)), (3, .int v3_2), (5, .int v5_1)]) rfl ?_
  refine G_iinc (v5_1 + 1) dX3_cross_59 5 rfl rfl (by decide) (L' := [(5, .int (v5_1 + 1)), (4, .int v5_1), (0, .ref (ad 30)), (1, .ref (ad 26)), (2, .ref (ad k2)), (3, .int v3_2)]) rfl ?_
  refine G_goto 24 dX3_cross_62 (by decide) ?_
  refine G_sub [2, 3, 4, 5, 1, 0] rfl ?_
  exact hag (v5_1, v5_1 + 1)

set_option maxRecDepth 100000 in
set_option maxHeartbeats 4000000 in
theorem w_Pa_cross_L10 (X : Cx) (ad : Nat → Nat) (k2 : Nat) (hk2 : isP k2) (kx : Mem → Option Mem) (hkx : ∀ (Me : Mem), G X ad mi_Pa_cross (φV) 78 [] [] Me (kx Me)) : ∀ (n : Nat) (s : Int32 × Mem), G X ad mi_Pa_cross (φV) 10 [(0, .ref (ad 30)), (1, .ref (ad 26)), (2, .ref (ad k2)), (3, .int s.1)] [] s.2 (LOOP (fun aq sq => Pa_cross_L10 k2 kx aq sq.1 sq.2) n s) := by
  refine LOOP_rule (fun (s : Int32 × Mem) o => G X ad mi_Pa_cross (φV) 10 [(0, .ref (ad 30)), (1, .ref (ad 26)), (2, .ref (ad k2)), (3, .int s.1)] [] s.2 o) (fun _ => G_none) (fun ag hag s => ?_)
  obtain ⟨v3_1, M2⟩ := s
  show G X ad mi_Pa_cross (φV) 10 [(0, .ref (ad 30)), (1, .ref (ad 26)), (2, .ref (ad k2)), (3, .int v3_1)] [] M2 (Pa_cross_L10 k2 kx ag v3_1 M2)
  unfold Pa_cross_L10
  refine G_iload_n dX3_cross_10 3 rfl ?_
  refine G_aload_n dX3_cross_11 0 rfl ?_
  refine G_getI hclX3 (by decide) rfl 1 (by decide) rfl wd_285 dX3_cross_12 ?_
  refine G_icmp_ge 78 dX3_cross_15 (by decide) (fun _ => ?_) (fun _ => ?_)
  refine G_sub [] rfl ?_
  exact hkx M2
  refine G_iconst (v := -1) dX3_cross_18 rfl ?_
  refine G_istore dX3_cross_19 (by decide) (L' := [(4, .int (-1)), (0, .ref (ad 30)), (1, .ref (ad 26)), (2, .ref (ad k2)), (3, .int v3_1)]) rfl ?_
  refine G_iconst (v := 0) dX3_cross_21 rfl ?_
  refine G_istore dX3_cross_22 (by decide) (L' := [(5, .int 0), (4, .int (-1)), (0, .ref (ad 30)), (1, .ref (ad 26)), (2, .ref (ad k2)), (3, .int v3_1)]) rfl ?_
  refine G_sub [2, 3, 4, 5, 1, 0] rfl ?_
  refine w_Pa_cross_L24 X ad k2 hk2 v3_1 M2 _ (fun v4_2 => ?_) _ _
  refine G_aload_n dX3_cross_65 0 rfl ?_
  refine G_iload_n dX3_cross_66 3 rfl ?_
  refine G_iload dX3_cross_67 4 rfl ?_
  refine G_callV_V (m_Pa_place 30 isP_30 _ _ M2) cal_Pa_place ⟨Nat.le_of_ble_eq_true rfl, Nat.le_of_ble_eq_true rfl⟩ wd_744 hclX3 (by decide) rfl [.int v3_1, .int v4_2] rfl rfl rfl (Nat.le_of_ble_eq_true rfl) dX3_cross_69 (fun M3 => ?_)
  refine G_iinc (v3_1 + 1) dX3_cross_72 3 rfl rfl (by decide) (L' := [(3, .int (v3_1 + 1)), (0, .ref (ad 30)), (1, .ref (ad 26)), (2, .ref (ad k2)), (4, .int v4_2)]) rfl ?_
  refine G_goto 10 dX3_cross_75 (by decide) ?_
  refine G_sub [1, 2, 3, 0] rfl ?_
  exact hag (v3_1 + 1, M3)

set_option maxRecDepth 100000 in
set_option maxHeartbeats 4000000 in
theorem m_Pa_cross (k2 : Nat) (hk2 : isP k2) (M : Mem) : MC mi_Pa_cross (φV) (fun ad => [.ref (ad 30), .ref (ad 26), .ref (ad k2)]) M (Pa_cross k2 M) := by
  refine MC_of rfl (by decide +kernel) (fun ad => [(0, .ref (ad 30)), (1, .ref (ad 26)), (2, .ref (ad k2))]) (fun _ => rfl) (fun _ => Nat.le_of_ble_eq_true rfl) (fun X ad => ?_)
  show G X ad mi_Pa_cross (φV) 0 [(0, .ref (ad 30)), (1, .ref (ad 26)), (2, .ref (ad k2))] [] M _
  unfold Pa_cross
  refine G_aload_n dX3_cross_0 0 rfl ?_
  refine G_aload_n dX3_cross_1 1 rfl ?_
  refine G_getI hclX3 (by decide) rfl 1 (by decide) rfl wd_285 dX3_cross_2 ?_
  refine G_callV_V (m_Pa_begin 30 isP_30 _ M) cal_Pa_begin ⟨Nat.le_of_ble_eq_true rfl, Nat.le_of_ble_eq_true rfl⟩ wd_743 hclX3 (by decide) rfl [.int (M 26 1)] rfl rfl rfl (Nat.le_of_ble_eq_true rfl) dX3_cross_5 (fun M1 => ?_)
  refine G_iconst (v := 0) dX3_cross_8 rfl ?_
  refine G_istore_n 3 rfl dX3_cross_9 (by decide) (L' := [(3, .int 0), (0, .ref (ad 30)), (1, .ref (ad 26)), (2, .ref (ad k2))]) rfl ?_
  refine G_sub [1, 2, 3, 0] rfl ?_
  refine w_Pa_cross_L10 X ad k2 hk2 _ (fun M4 => ?_) _ _
  exact G_return rfl rfl dX3_cross_78 rfl

set_option maxRecDepth 100000 in
set_option maxHeartbeats 4000000 in
theorem m_Pa_copyRenumbered (M : Mem) : MC mi_Pa_copyRenumbered (φV) (fun ad => [.ref (ad 30), .ref (ad 26)]) M (Pa_copyRenumbered M) := by
  refine MC_of rfl (by decide +kernel) (fun ad => [(0, .ref (ad 30)), (1, .ref (ad 26))]) (fun _ => rfl) (fun _ => Nat.le_of_ble_eq_true rfl) (fun X ad => ?_)
  show G X ad mi_Pa_copyRenumbered (φV) 0 [(0, .ref (ad 30)), (1, .ref (ad 26))] [] M _
  unfold Pa_copyRenumbered
  refine G_aload_n dX3_copyRenumbered_0 0 rfl ?_
  refine G_aload_n dX3_copyRenumbered_1 1 rfl ?_
  refine G_aload_n dX3_copyRenumbered_2 1 rfl ?_
  refine G_callV_V (m_Pa_cross 26 isP_26 M) cal_Pa_cross ⟨Nat.le_of_ble_eq_true rfl, Nat.le_of_ble_eq_true rfl⟩ wd_739 hclX3 (by decide) rfl [.ref (ad 26), .ref (ad 26)] rfl rfl rfl (Nat.le_of_ble_eq_true rfl) dX3_copyRenumbered_3 (fun M1 => ?_)
  exact G_return rfl rfl dX3_copyRenumbered_6 rfl

set_option maxRecDepth 100000 in
set_option maxHeartbeats 4000000 in
theorem w_Pa_rename_L2 (X : Cx) (ad : Nat → Nat) (v1_1 : Int32) (v2_1 : Int32) (kx : Mem → Option Mem) (hkx : ∀ (Me : Mem), G X ad mi_Pa_rename (φV) 34 [] [] Me (kx Me)) : ∀ (n : Nat) (s : Int32 × Mem), G X ad mi_Pa_rename (φV) 2 [(0, .ref (ad 26)), (1, .int v1_1), (2, .int v2_1), (3, .int s.1)] [] s.2 (LOOP (fun aq sq => Pa_rename_L2 v1_1 v2_1 kx aq sq.1 sq.2) n s) := by
  refine LOOP_rule (fun (s : Int32 × Mem) o => G X ad mi_Pa_rename (φV) 2 [(0, .ref (ad 26)), (1, .int v1_1), (2, .int v2_1), (3, .int s.1)] [] s.2 o) (fun _ => G_none) (fun ag hag s => ?_)
  obtain ⟨v3_1, M1⟩ := s
  show G X ad mi_Pa_rename (φV) 2 [(0, .ref (ad 26)), (1, .int v1_1), (2, .int v2_1), (3, .int v3_1)] [] M1 (Pa_rename_L2 v1_1 v2_1 kx ag v3_1 M1)
  unfold Pa_rename_L2
  refine G_iload_n dX3_rename_2 3 rfl ?_
  refine G_aload_n dX3_rename_3 0 rfl ?_
  refine G_getI hclX3 (by decide) rfl 1 (by decide) rfl wd_285 dX3_rename_4 ?_
  refine G_icmp_ge 34 dX3_rename_7 (by decide) (fun _ => ?_) (fun _ => ?_)
  refine G_sub [] rfl ?_
  exact hkx M1
  refine G_aload_n dX3_rename_10 0 rfl ?_
  refine G_iload_n dX3_rename_11 3 rfl ?_
  refine G_callV_I (m_Pa_of 26 isP_26 _ M1) cal_Pa_of ⟨Nat.le_of_ble_eq_true rfl, Nat.le_of_ble_eq_true rfl⟩ wd_506 hclX3 (by decide) rfl [.int v3_1] rfl rfl rfl (Nat.le_of_ble_eq_true rfl) dX3_rename_12 (fun r_1 => ?_)
  refine G_iload_n dX3_rename_15 1 rfl ?_
  refine G_icmp_ne 28 dX3_rename_16 (by decide) (fun _ => ?_) (fun _ => ?_)
  refine G_aload_n dX3_rename_19 0 rfl ?_
  refine G_getR hclX3 (by decide) rfl 0 (by decide) rfl wd_284 dX3_rename_20 ?_
  refine G_iload_n dX3_rename_23 3 rfl ?_
  refine G_iload_n dX3_rename_24 2 rfl ?_
  refine G_callSN_V (m_SP_put 27 isA_27 _ _ M1) cal_SP_put ⟨Nat.le_of_ble_eq_true rfl, Nat.le_of_ble_eq_true rfl⟩ wn_505 rfl rfl (Nat.le_of_ble_eq_true rfl) dX3_rename_25 (fun M2 => ?_)
  refine G_iinc (v3_1 + 1) dX3_rename_28 3 rfl rfl (by decide) (L' := [(3, .int (v3_1 + 1)), (0, .ref (ad 26)), (1, .int v1_1), (2, .int v2_1)]) rfl ?_
  refine G_goto 2 dX3_rename_31 (by decide) ?_
  refine G_sub [1, 2, 3, 0] rfl ?_
  exact hag (v3_1 + 1, M2)
  refine G_iinc (v3_1 + 1) dX3_rename_28 3 rfl rfl (by decide) (L' := [(3, .int (v3_1 + 1)), (0, .ref (ad 26)), (1, .int v1_1), (2, .int v2_1)]) rfl ?_
  refine G_goto 2 dX3_rename_31 (by decide) ?_
  refine G_sub [1, 2, 3, 0] rfl ?_
  exact hag (v3_1 + 1, M1)

set_option maxRecDepth 100000 in
set_option maxHeartbeats 4000000 in
theorem m_Pa_rename (v1 : Int32) (v2 : Int32) (M : Mem) : MC mi_Pa_rename (φV) (fun ad => [.ref (ad 26), .int v1, .int v2]) M (Pa_rename v1 v2 M) := by
  refine MC_of rfl (by decide +kernel) (fun ad => [(0, .ref (ad 26)), (1, .int v1), (2, .int v2)]) (fun _ => rfl) (fun _ => Nat.le_of_ble_eq_true rfl) (fun X ad => ?_)
  show G X ad mi_Pa_rename (φV) 0 [(0, .ref (ad 26)), (1, .int v1), (2, .int v2)] [] M _
  unfold Pa_rename
  refine G_iconst (v := 0) dX3_rename_0 rfl ?_
  refine G_istore_n 3 rfl dX3_rename_1 (by decide) (L' := [(3, .int 0), (0, .ref (ad 26)), (1, .int v1), (2, .int v2)]) rfl ?_
  refine G_sub [1, 2, 3, 0] rfl ?_
  refine w_Pa_rename_L2 X ad v1 v2 _ (fun M3 => ?_) _ _
  exact G_return rfl rfl dX3_rename_34 rfl

set_option maxRecDepth 100000 in
set_option maxHeartbeats 4000000 in
theorem w_Pa_mergeBy_L14 (X : Cx) (ad : Nat → Nat) (v2_2 : Int32) (kx : Mem → Option Mem) (hkx : ∀ (Me : Mem), G X ad mi_Pa_mergeBy (φV) 51 [(0, .ref (ad 26)), (1, .ref (ad 28)), (2, .int v2_2)] [] Me (kx Me)) : ∀ (n : Nat) (s : Int32 × Mem), G X ad mi_Pa_mergeBy (φV) 14 [(0, .ref (ad 26)), (1, .ref (ad 28)), (2, .int v2_2), (3, .int s.1)] [] s.2 (LOOP (fun aq sq => Pa_mergeBy_L14 v2_2 kx aq sq.1 sq.2) n s) := by
  refine LOOP_rule (fun (s : Int32 × Mem) o => G X ad mi_Pa_mergeBy (φV) 14 [(0, .ref (ad 26)), (1, .ref (ad 28)), (2, .int v2_2), (3, .int s.1)] [] s.2 o) (fun _ => G_none) (fun ag hag s => ?_)
  obtain ⟨v3_2, M2⟩ := s
  show G X ad mi_Pa_mergeBy (φV) 14 [(0, .ref (ad 26)), (1, .ref (ad 28)), (2, .int v2_2), (3, .int v3_2)] [] M2 (Pa_mergeBy_L14 v2_2 kx ag v3_2 M2)
  unfold Pa_mergeBy_L14
  refine G_iload_n dX3_mergeBy_14 3 rfl ?_
  refine G_aload_n dX3_mergeBy_15 0 rfl ?_
  refine G_getI hclX3 (by decide) rfl 1 (by decide) rfl wd_285 dX3_mergeBy_16 ?_
  refine G_icmp_ge 51 dX3_mergeBy_19 (by decide) (fun _ => ?_) (fun _ => ?_)
  refine G_sub [0, 1, 2] rfl ?_
  exact hkx M2
  refine G_aload_n dX3_mergeBy_22 1 rfl ?_
  refine G_iload_n dX3_mergeBy_23 2 rfl ?_
  refine G_iload_n dX3_mergeBy_24 3 rfl ?_
  refine G_callV_I (m_Pa_together 28 isP_28 _ _ M2) cal_Pa_together ⟨Nat.le_of_ble_eq_true rfl, Nat.le_of_ble_eq_true rfl⟩ wd_730 hclX3 (by decide) rfl [.int v2_2, .int v3_2] rfl rfl rfl (Nat.le_of_ble_eq_true rfl) dX3_mergeBy_25 (fun r_1 => ?_)
  refine G_if_eq 45 dX3_mergeBy_28 (by decide) (fun _ => ?_) (fun _ => ?_)
  refine G_iinc (v3_2 + 1) dX3_mergeBy_45 3 rfl rfl (by decide) (L' := [(3, .int (v3_2 + 1)), (0, .ref (ad 26)), (1, .ref (ad 28)), (2, .int v2_2)]) rfl ?_
  refine G_goto 14 dX3_mergeBy_48 (by decide) ?_
  refine G_sub [1, 2, 3, 0] rfl ?_
  exact hag (v3_2 + 1, M2)
  refine G_aload_n dX3_mergeBy_31 0 rfl ?_
  refine G_aload_n dX3_mergeBy_32 0 rfl ?_
  refine G_iload_n dX3_mergeBy_33 3 rfl ?_
  refine G_callV_I (m_Pa_of 26 isP_26 _ M2) cal_Pa_of ⟨Nat.le_of_ble_eq_true rfl, Nat.le_of_ble_eq_true rfl⟩ wd_506 hclX3 (by decide) rfl [.int v3_2] rfl rfl rfl (Nat.le_of_ble_eq_true rfl) dX3_mergeBy_34 (fun r_2 => ?_)
  refine G_aload_n dX3_mergeBy_37 0 rfl ?_
  refine G_iload_n dX3_mergeBy_38 2 rfl ?_
  refine G_callV_I (m_Pa_of 26 isP_26 _ M2) cal_Pa_of ⟨Nat.le_of_ble_eq_true rfl, Nat.le_of_ble_eq_true rfl⟩ wd_506 hclX3 (by decide) rfl [.int v2_2] rfl rfl rfl (Nat.le_of_ble_eq_true rfl) dX3_mergeBy_39 (fun r_3 => ?_)
  refine G_callV_V (m_Pa_rename _ _ M2) cal_Pa_rename ⟨Nat.le_of_ble_eq_true rfl, Nat.le_of_ble_eq_true rfl⟩ wd_731 hclX3 (by decide) rfl [.int r_2, .int r_3] rfl rfl rfl (Nat.le_of_ble_eq_true rfl) dX3_mergeBy_42 (fun M3 => ?_)
  refine G_iinc (v3_2 + 1) dX3_mergeBy_45 3 rfl rfl (by decide) (L' := [(3, .int (v3_2 + 1)), (0, .ref (ad 26)), (1, .ref (ad 28)), (2, .int v2_2)]) rfl ?_
  refine G_goto 14 dX3_mergeBy_48 (by decide) ?_
  refine G_sub [1, 2, 3, 0] rfl ?_
  exact hag (v3_2 + 1, M3)

set_option maxRecDepth 100000 in
set_option maxHeartbeats 4000000 in
theorem w_Pa_mergeBy_L2 (X : Cx) (ad : Nat → Nat) (kx : Mem → Option Mem) (hkx : ∀ (Me : Mem), G X ad mi_Pa_mergeBy (φV) 57 [] [] Me (kx Me)) : ∀ (n : Nat) (s : Int32 × Mem), G X ad mi_Pa_mergeBy (φV) 2 [(0, .ref (ad 26)), (1, .ref (ad 28)), (2, .int s.1)] [] s.2 (LOOP (fun aq sq => Pa_mergeBy_L2 kx aq sq.1 sq.2) n s) := by
  refine LOOP_rule (fun (s : Int32 × Mem) o => G X ad mi_Pa_mergeBy (φV) 2 [(0, .ref (ad 26)), (1, .ref (ad 28)), (2, .int s.1)] [] s.2 o) (fun _ => G_none) (fun ag hag s => ?_)
  obtain ⟨v2_1, M1⟩ := s
  show G X ad mi_Pa_mergeBy (φV) 2 [(0, .ref (ad 26)), (1, .ref (ad 28)), (2, .int v2_1)] [] M1 (Pa_mergeBy_L2 kx ag v2_1 M1)
  unfold Pa_mergeBy_L2
  refine G_iload_n dX3_mergeBy_2 2 rfl ?_
  refine G_aload_n dX3_mergeBy_3 0 rfl ?_
  refine G_getI hclX3 (by decide) rfl 1 (by decide) rfl wd_285 dX3_mergeBy_4 ?_
  refine G_icmp_ge 57 dX3_mergeBy_7 (by decide) (fun _ => ?_) (fun _ => ?_)
  refine G_sub [] rfl ?_
  exact hkx M1
  refine G_iload_n dX3_mergeBy_10 2 rfl ?_
  refine G_iconst (v := 1) dX3_mergeBy_11 rfl ?_
  refine G_iadd dX3_mergeBy_12 ?_
  refine G_nmI (fun v3_1 => ?_)
  refine G_istore_n 3 rfl dX3_mergeBy_13 (by decide) (L' := [(3, .int v3_1), (0, .ref (ad 26)), (1, .ref (ad 28)), (2, .int v2_1)]) rfl ?_
  refine G_sub [1, 2, 3, 0] rfl ?_
  refine w_Pa_mergeBy_L14 X ad v2_1 _ (fun M4 => ?_) _ _
  refine G_iinc (v2_1 + 1) dX3_mergeBy_51 2 rfl rfl (by decide) (L' := [(2, .int (v2_1 + 1)), (0, .ref (ad 26)), (1, .ref (ad 28))]) rfl ?_
  refine G_goto 2 dX3_mergeBy_54 (by decide) ?_
  refine G_sub [1, 2, 0] rfl ?_
  exact hag (v2_1 + 1, M4)

set_option maxRecDepth 100000 in
set_option maxHeartbeats 4000000 in
theorem m_Pa_mergeBy (M : Mem) : MC mi_Pa_mergeBy (φV) (fun ad => [.ref (ad 26), .ref (ad 28)]) M (Pa_mergeBy M) := by
  refine MC_of rfl (by decide +kernel) (fun ad => [(0, .ref (ad 26)), (1, .ref (ad 28))]) (fun _ => rfl) (fun _ => Nat.le_of_ble_eq_true rfl) (fun X ad => ?_)
  show G X ad mi_Pa_mergeBy (φV) 0 [(0, .ref (ad 26)), (1, .ref (ad 28))] [] M _
  unfold Pa_mergeBy
  refine G_iconst (v := 0) dX3_mergeBy_0 rfl ?_
  refine G_istore_n 2 rfl dX3_mergeBy_1 (by decide) (L' := [(2, .int 0), (0, .ref (ad 26)), (1, .ref (ad 28))]) rfl ?_
  refine G_sub [1, 2, 0] rfl ?_
  refine w_Pa_mergeBy_L2 X ad _ (fun M5 => ?_) _ _
  exact G_return rfl rfl dX3_mergeBy_57 rfl

set_option maxRecDepth 100000 in
set_option maxHeartbeats 4000000 in
theorem m_SP_join (v1 : Int32) (v2 : Int32) (M : Mem) : MC mi_SP_join (φIM) (fun ad => [.ref (ad 0), .int v1, .int v2]) M (SP_join v1 v2 M) := by
  refine MC_of rfl (by decide +kernel) (fun ad => [(0, .ref (ad 0)), (1, .int v1), (2, .int v2)]) (fun _ => rfl) (fun _ => Nat.le_of_ble_eq_true rfl) (fun X ad => ?_)
  show G X ad mi_SP_join (φIM) 0 [(0, .ref (ad 0)), (1, .int v1), (2, .int v2)] [] M _
  unfold SP_join
  refine G_aload_n dX9_join_0 0 rfl ?_
  refine G_getR hclX9 (by decide) rfl 8 (by decide) rfl wd_315 dX9_join_1 ?_
  refine G_iload_n dX9_join_4 1 rfl ?_
  refine G_aload_n dX9_join_5 0 rfl ?_
  refine G_getR hclX9 (by decide) rfl 0 (by decide) rfl wd_307 dX9_join_6 ?_
  refine G_getIN hclX7 (by decide) rfl 2 (by decide) rfl wn_147 dX9_join_9 ?_
  refine G_callVN_IM (m_Pa_readNumber 26 isP_26 _ _ M) cal_Pa_readNumber ⟨Nat.le_of_ble_eq_true rfl, Nat.le_of_ble_eq_true rfl⟩ wn_501 hclX3 (by decide) rfl [.int v1, .int (M 1 2)] rfl rfl rfl (Nat.le_of_ble_eq_true rfl) dX9_join_12 (fun r_1 M1 => ?_)
  refine G_jp (fun kq => ∀ (M2 : Mem), G X ad mi_SP_join (φIM) 36 [(0, .ref (ad 0))] [] M2 (kq M2)) (fun M2 => ?_) (fun k_1 hk_1 => ?_)
  refine G_aload_n dX9_join_36 0 rfl ?_
  refine G_iconst (v := -1) dX9_join_37 rfl ?_
  refine G_callV_IM (m_SP_refuse _ M2) cal_SP_refuse ⟨Nat.le_of_ble_eq_true rfl, Nat.le_of_ble_eq_true rfl⟩ wd_351 hclX9 (by decide) rfl [.int (-1)] rfl rfl rfl (Nat.le_of_ble_eq_true rfl) dX9_join_38 (fun r_2 M3 => ?_)
  exact G_ireturn rfl rfl dX9_join_41 rfl
  refine G_if_eq 36 dX9_join_15 (by decide) (fun _ => ?_) (fun _ => ?_)
  refine G_sub [0] rfl ?_
  exact hk_1 M1
  refine G_aload_n dX9_join_18 0 rfl ?_
  refine G_getR hclX9 (by decide) rfl 9 (by decide) rfl wd_316 dX9_join_19 ?_
  refine G_iload_n dX9_join_22 2 rfl ?_
  refine G_aload_n dX9_join_23 0 rfl ?_
  refine G_getR hclX9 (by decide) rfl 0 (by decide) rfl wd_307 dX9_join_24 ?_
  refine G_getIN hclX7 (by decide) rfl 2 (by decide) rfl wn_147 dX9_join_27 ?_
  refine G_callVN_IM (m_Pa_readNumber 28 isP_28 _ _ M1) cal_Pa_readNumber ⟨Nat.le_of_ble_eq_true rfl, Nat.le_of_ble_eq_true rfl⟩ wn_501 hclX3 (by decide) rfl [.int v2, .int (M1 1 2)] rfl rfl rfl (Nat.le_of_ble_eq_true rfl) dX9_join_30 (fun r_3 M4 => ?_)
  refine G_if_ne 42 dX9_join_33 (by decide) (fun _ => ?_) (fun _ => ?_)
  refine G_sub [0] rfl ?_
  exact hk_1 M4
  refine G_aload_n dX9_join_42 0 rfl ?_
  refine G_getR hclX9 (by decide) rfl 8 (by decide) rfl wd_315 dX9_join_43 ?_
  refine G_aload_n dX9_join_46 0 rfl ?_
  refine G_getR hclX9 (by decide) rfl 9 (by decide) rfl wd_316 dX9_join_47 ?_
  refine G_callVN_V (m_Pa_mergeBy M4) cal_Pa_mergeBy ⟨Nat.le_of_ble_eq_true rfl, Nat.le_of_ble_eq_true rfl⟩ wn_726 hclX3 (by decide) rfl [.ref (ad 28)] rfl rfl rfl (Nat.le_of_ble_eq_true rfl) dX9_join_50 (fun M5 => ?_)
  refine G_aload_n dX9_join_53 0 rfl ?_
  refine G_getR hclX9 (by decide) rfl 10 (by decide) rfl wd_317 dX9_join_54 ?_
  refine G_aload_n dX9_join_57 0 rfl ?_
  refine G_getR hclX9 (by decide) rfl 8 (by decide) rfl wd_315 dX9_join_58 ?_
  refine G_callVN_V (m_Pa_copyRenumbered M5) cal_Pa_copyRenumbered ⟨Nat.le_of_ble_eq_true rfl, Nat.le_of_ble_eq_true rfl⟩ wn_735 hclX3 (by decide) rfl [.ref (ad 26)] rfl rfl rfl (Nat.le_of_ble_eq_true rfl) dX9_join_61 (fun M6 => ?_)
  refine G_aload_n dX9_join_64 0 rfl ?_
  refine G_getR hclX9 (by decide) rfl 10 (by decide) rfl wd_317 dX9_join_65 ?_
  refine G_callVN_I (m_Pa_number 30 isP_30 M6) cal_Pa_number ⟨Nat.le_of_ble_eq_true rfl, Nat.le_of_ble_eq_true rfl⟩ wn_586 hclX3 (by decide) rfl [] rfl rfl rfl (Nat.le_of_ble_eq_true rfl) dX9_join_68 (fun r_4 => ?_)
  exact G_ireturn rfl rfl dX9_join_71 rfl

set_option maxRecDepth 100000 in
set_option maxHeartbeats 4000000 in
theorem m_SP_meet (v1 : Int32) (v2 : Int32) (M : Mem) : MC mi_SP_meet (φIM) (fun ad => [.ref (ad 0), .int v1, .int v2]) M (SP_meet v1 v2 M) := by
  refine MC_of rfl (by decide +kernel) (fun ad => [(0, .ref (ad 0)), (1, .int v1), (2, .int v2)]) (fun _ => rfl) (fun _ => Nat.le_of_ble_eq_true rfl) (fun X ad => ?_)
  show G X ad mi_SP_meet (φIM) 0 [(0, .ref (ad 0)), (1, .int v1), (2, .int v2)] [] M _
  unfold SP_meet
  refine G_aload_n dX9_meet_0 0 rfl ?_
  refine G_getR hclX9 (by decide) rfl 8 (by decide) rfl wd_315 dX9_meet_1 ?_
  refine G_iload_n dX9_meet_4 1 rfl ?_
  refine G_aload_n dX9_meet_5 0 rfl ?_
  refine G_getR hclX9 (by decide) rfl 0 (by decide) rfl wd_307 dX9_meet_6 ?_
  refine G_getIN hclX7 (by decide) rfl 2 (by decide) rfl wn_147 dX9_meet_9 ?_
  refine G_callVN_IM (m_Pa_readNumber 26 isP_26 _ _ M) cal_Pa_readNumber ⟨Nat.le_of_ble_eq_true rfl, Nat.le_of_ble_eq_true rfl⟩ wn_501 hclX3 (by decide) rfl [.int v1, .int (M 1 2)] rfl rfl rfl (Nat.le_of_ble_eq_true rfl) dX9_meet_12 (fun r_1 M1 => ?_)
  refine G_jp (fun kq => ∀ (M2 : Mem), G X ad mi_SP_meet (φIM) 36 [(0, .ref (ad 0))] [] M2 (kq M2)) (fun M2 => ?_) (fun k_1 hk_1 => ?_)
  refine G_aload_n dX9_meet_36 0 rfl ?_
  refine G_iconst (v := -1) dX9_meet_37 rfl ?_
  refine G_callV_IM (m_SP_refuse _ M2) cal_SP_refuse ⟨Nat.le_of_ble_eq_true rfl, Nat.le_of_ble_eq_true rfl⟩ wd_351 hclX9 (by decide) rfl [.int (-1)] rfl rfl rfl (Nat.le_of_ble_eq_true rfl) dX9_meet_38 (fun r_2 M3 => ?_)
  exact G_ireturn rfl rfl dX9_meet_41 rfl
  refine G_if_eq 36 dX9_meet_15 (by decide) (fun _ => ?_) (fun _ => ?_)
  refine G_sub [0] rfl ?_
  exact hk_1 M1
  refine G_aload_n dX9_meet_18 0 rfl ?_
  refine G_getR hclX9 (by decide) rfl 9 (by decide) rfl wd_316 dX9_meet_19 ?_
  refine G_iload_n dX9_meet_22 2 rfl ?_
  refine G_aload_n dX9_meet_23 0 rfl ?_
  refine G_getR hclX9 (by decide) rfl 0 (by decide) rfl wd_307 dX9_meet_24 ?_
  refine G_getIN hclX7 (by decide) rfl 2 (by decide) rfl wn_147 dX9_meet_27 ?_
  refine G_callVN_IM (m_Pa_readNumber 28 isP_28 _ _ M1) cal_Pa_readNumber ⟨Nat.le_of_ble_eq_true rfl, Nat.le_of_ble_eq_true rfl⟩ wn_501 hclX3 (by decide) rfl [.int v2, .int (M1 1 2)] rfl rfl rfl (Nat.le_of_ble_eq_true rfl) dX9_meet_30 (fun r_3 M4 => ?_)
  refine G_if_ne 42 dX9_meet_33 (by decide) (fun _ => ?_) (fun _ => ?_)
  refine G_sub [0] rfl ?_
  exact hk_1 M4
  refine G_aload_n dX9_meet_42 0 rfl ?_
  refine G_getR hclX9 (by decide) rfl 10 (by decide) rfl wd_317 dX9_meet_43 ?_
  refine G_aload_n dX9_meet_46 0 rfl ?_
  refine G_getR hclX9 (by decide) rfl 8 (by decide) rfl wd_315 dX9_meet_47 ?_
  refine G_aload_n dX9_meet_50 0 rfl ?_
  refine G_getR hclX9 (by decide) rfl 9 (by decide) rfl wd_316 dX9_meet_51 ?_
  refine G_callVN_V (m_Pa_cross 28 isP_28 M4) cal_Pa_cross ⟨Nat.le_of_ble_eq_true rfl, Nat.le_of_ble_eq_true rfl⟩ wn_749 hclX3 (by decide) rfl [.ref (ad 26), .ref (ad 28)] rfl rfl rfl (Nat.le_of_ble_eq_true rfl) dX9_meet_54 (fun M5 => ?_)
  refine G_aload_n dX9_meet_57 0 rfl ?_
  refine G_getR hclX9 (by decide) rfl 10 (by decide) rfl wd_317 dX9_meet_58 ?_
  refine G_callVN_I (m_Pa_number 30 isP_30 M5) cal_Pa_number ⟨Nat.le_of_ble_eq_true rfl, Nat.le_of_ble_eq_true rfl⟩ wn_586 hclX3 (by decide) rfl [] rfl rfl rfl (Nat.le_of_ble_eq_true rfl) dX9_meet_61 (fun r_4 => ?_)
  exact G_ireturn rfl rfl dX9_meet_64 rfl

set_option maxRecDepth 100000 in
set_option maxHeartbeats 4000000 in
theorem w_Bl_tiesTo_L6 (X : Cx) (ad : Nat → Nat) (v3_1 : Int32) (v4_1 : Int32) (v5_1 : Int32) (M : Mem) (kx : Int32 → Option Int32) (hkx : ∀ (e6 : Int32), G X ad mi_Bl_tiesTo (φI M) 47 [(6, .int e6)] [] M (kx e6)) : ∀ (n : Nat) (s : Int32 × Int32), G X ad mi_Bl_tiesTo (φI M) 6 [(1, .ref (ad 1)), (2, .ref (ad 26)), (3, .int v3_1), (4, .int v4_1), (5, .int v5_1), (6, .int s.1), (7, .int s.2)] [] M (LOOP (fun aq sq => Bl_tiesTo_L6 v3_1 v4_1 v5_1 M kx aq sq.1 sq.2) n s) := by
  refine LOOP_rule (fun (s : Int32 × Int32) o => G X ad mi_Bl_tiesTo (φI M) 6 [(1, .ref (ad 1)), (2, .ref (ad 26)), (3, .int v3_1), (4, .int v4_1), (5, .int v5_1), (6, .int s.1), (7, .int s.2)] [] M o) (fun _ => G_none) (fun ag hag s => ?_)
  obtain ⟨v6_1, v7_1⟩ := s
  show G X ad mi_Bl_tiesTo (φI M) 6 [(1, .ref (ad 1)), (2, .ref (ad 26)), (3, .int v3_1), (4, .int v4_1), (5, .int v5_1), (6, .int v6_1), (7, .int v7_1)] [] M (Bl_tiesTo_L6 v3_1 v4_1 v5_1 M kx ag v6_1 v7_1)
  unfold Bl_tiesTo_L6
  refine G_iload dX0_tiesTo_6 6 rfl ?_
  refine G_aload_n dX0_tiesTo_8 0 rfl ?_
  refine G_getIN hclX7 (by decide) rfl 2 (by decide) rfl wn_148 dX0_tiesTo_9 ?_
  refine G_icmp_ge 47 dX0_tiesTo_12 (by decide) (fun _ => ?_) (fun _ => ?_)
  refine G_sub [5] rfl ?_
  exact hkx v6_1
  refine G_aload_n dX0_tiesTo_15 1 rfl ?_
  refine G_iload dX0_tiesTo_16 6 rfl ?_
  refine G_callVN_I (m_Pa_of 26 isP_26 _ M) cal_Pa_of ⟨Nat.le_of_ble_eq_true rfl, Nat.le_of_ble_eq_true rfl⟩ wn_766 hclX3 (by decide) rfl [.int v7_1] rfl rfl rfl (Nat.le_of_ble_eq_true rfl) dX0_tiesTo_18 (fun r_1 => ?_)
  refine G_iload dX0_tiesTo_21 3 rfl ?_
  refine G_icmp_ne 41 dX0_tiesTo_23 (by decide) (fun _ => ?_) (fun _ => ?_)
  refine G_aload_n dX0_tiesTo_26 0 rfl ?_
  refine G_iload dX0_tiesTo_27 4 rfl ?_
  refine G_iload_n dX0_tiesTo_29 2 rfl ?_
  refine G_iload dX0_tiesTo_30 6 rfl ?_
  refine G_callVN_I (m_To_tied _ _ _ M) cal_To_tied ⟨Nat.le_of_ble_eq_true rfl, Nat.le_of_ble_eq_true rfl⟩ wn_771 hclX7 (by decide) rfl [.int v5_1, .int v3_1, .int v7_1] rfl rfl rfl (Nat.le_of_ble_eq_true rfl) dX0_tiesTo_32 (fun r_2 => ?_)
  refine G_if_eq 41 dX0_tiesTo_35 (by decide) (fun _ => ?_) (fun _ => ?_)
  refine G_iinc (v7_1 + 1) dX0_tiesTo_41 6 rfl rfl (by decide) (L' := [(7, .int (v7_1 + 1)), (1, .ref (ad 1)), (2, .ref (ad 26)), (3, .int v3_1), (4, .int v4_1), (5, .int v5_1), (6, .int v6_1)]) rfl ?_
  refine G_goto 6 dX0_tiesTo_44 (by decide) ?_
  refine G_sub [1, 2, 3, 4, 5, 6, 0] rfl ?_
  exact hag (v6_1, v7_1 + 1)
  refine G_iinc (v6_1 + 1) dX0_tiesTo_38 5 rfl rfl (by decide) (L' := [(6, .int (v6_1 + 1)), (1, .ref (ad 1)), (2, .ref (ad 26)), (3, .int v3_1), (4, .int v4_1), (5, .int v5_1), (7, .int v7_1)]) rfl ?_
  refine G_iinc (v7_1 + 1) dX0_tiesTo_41 6 rfl rfl (by decide) (L' := [(7, .int (v7_1 + 1)), (6, .int (v6_1 + 1)), (1, .ref (ad 1)), (2, .ref (ad 26)), (3, .int v3_1), (4, .int v4_1), (5, .int v5_1)]) rfl ?_
  refine G_goto 6 dX0_tiesTo_44 (by decide) ?_
  refine G_sub [2, 3, 4, 5, 6, 1, 0] rfl ?_
  exact hag (v6_1 + 1, v7_1 + 1)
  refine G_iinc (v7_1 + 1) dX0_tiesTo_41 6 rfl rfl (by decide) (L' := [(7, .int (v7_1 + 1)), (1, .ref (ad 1)), (2, .ref (ad 26)), (3, .int v3_1), (4, .int v4_1), (5, .int v5_1), (6, .int v6_1)]) rfl ?_
  refine G_goto 6 dX0_tiesTo_44 (by decide) ?_
  refine G_sub [1, 2, 3, 4, 5, 6, 0] rfl ?_
  exact hag (v6_1, v7_1 + 1)

set_option maxRecDepth 100000 in
set_option maxHeartbeats 4000000 in
theorem m_Bl_tiesTo (v3 : Int32) (v4 : Int32) (v5 : Int32) (M : Mem) : MC mi_Bl_tiesTo (φI M) (fun ad => [.ref (ad 20), .ref (ad 1), .ref (ad 26), .int v3, .int v4, .int v5]) M (Bl_tiesTo v3 v4 v5 M) := by
  refine MC_of rfl (by decide +kernel) (fun ad => [(0, .ref (ad 20)), (1, .ref (ad 1)), (2, .ref (ad 26)), (3, .int v3), (4, .int v4), (5, .int v5)]) (fun _ => rfl) (fun _ => Nat.le_of_ble_eq_true rfl) (fun X ad => ?_)
  show G X ad mi_Bl_tiesTo (φI M) 0 [(0, .ref (ad 20)), (1, .ref (ad 1)), (2, .ref (ad 26)), (3, .int v3), (4, .int v4), (5, .int v5)] [] M _
  unfold Bl_tiesTo
  refine G_iconst (v := 0) dX0_tiesTo_0 rfl ?_
  refine G_istore dX0_tiesTo_1 (by decide) (L' := [(6, .int 0), (0, .ref (ad 20)), (1, .ref (ad 1)), (2, .ref (ad 26)), (3, .int v3), (4, .int v4), (5, .int v5)]) rfl ?_
  refine G_iconst (v := 0) dX0_tiesTo_3 rfl ?_
  refine G_istore dX0_tiesTo_4 (by decide) (L' := [(7, .int 0), (6, .int 0), (0, .ref (ad 20)), (1, .ref (ad 1)), (2, .ref (ad 26)), (3, .int v3), (4, .int v4), (5, .int v5)]) rfl ?_
  refine G_sub [3, 4, 5, 6, 7, 1, 0] rfl ?_
  refine w_Bl_tiesTo_L6 X ad v3 v4 v5 M _ (fun v6_2 => ?_) _ _
  refine G_iload dX0_tiesTo_47 0 rfl ?_
  exact G_ireturn rfl rfl dX0_tiesTo_49 rfl

set_option maxRecDepth 100000 in
set_option maxHeartbeats 4000000 in
theorem w_Pa_sizeOf_L4 (X : Cx) (ad : Nat → Nat) (v1_1 : Int32) (M : Mem) (kx : Int32 → Option Int32) (hkx : ∀ (e2 : Int32), G X ad mi_Pa_sizeOf (φI M) 30 [(2, .int e2)] [] M (kx e2)) : ∀ (n : Nat) (s : Int32 × Int32), G X ad mi_Pa_sizeOf (φI M) 4 [(0, .ref (ad 26)), (1, .int v1_1), (2, .int s.1), (3, .int s.2)] [] M (LOOP (fun aq sq => Pa_sizeOf_L4 v1_1 M kx aq sq.1 sq.2) n s) := by
  refine LOOP_rule (fun (s : Int32 × Int32) o => G X ad mi_Pa_sizeOf (φI M) 4 [(0, .ref (ad 26)), (1, .int v1_1), (2, .int s.1), (3, .int s.2)] [] M o) (fun _ => G_none) (fun ag hag s => ?_)
  obtain ⟨v2_1, v3_1⟩ := s
  show G X ad mi_Pa_sizeOf (φI M) 4 [(0, .ref (ad 26)), (1, .int v1_1), (2, .int v2_1), (3, .int v3_1)] [] M (Pa_sizeOf_L4 v1_1 M kx ag v2_1 v3_1)
  unfold Pa_sizeOf_L4
  refine G_iload_n dX3_sizeOf_4 3 rfl ?_
  refine G_aload_n dX3_sizeOf_5 0 rfl ?_
  refine G_getI hclX3 (by decide) rfl 1 (by decide) rfl wd_285 dX3_sizeOf_6 ?_
  refine G_icmp_ge 30 dX3_sizeOf_9 (by decide) (fun _ => ?_) (fun _ => ?_)
  refine G_sub [2] rfl ?_
  exact hkx v2_1
  refine G_aload_n dX3_sizeOf_12 0 rfl ?_
  refine G_iload_n dX3_sizeOf_13 3 rfl ?_
  refine G_callV_I (m_Pa_of 26 isP_26 _ M) cal_Pa_of ⟨Nat.le_of_ble_eq_true rfl, Nat.le_of_ble_eq_true rfl⟩ wd_506 hclX3 (by decide) rfl [.int v3_1] rfl rfl rfl (Nat.le_of_ble_eq_true rfl) dX3_sizeOf_14 (fun r_1 => ?_)
  refine G_iload_n dX3_sizeOf_17 1 rfl ?_
  refine G_icmp_ne 24 dX3_sizeOf_18 (by decide) (fun _ => ?_) (fun _ => ?_)
  refine G_iinc (v2_1 + 1) dX3_sizeOf_21 2 rfl rfl (by decide) (L' := [(2, .int (v2_1 + 1)), (0, .ref (ad 26)), (1, .int v1_1), (3, .int v3_1)]) rfl ?_
  refine G_iinc (v3_1 + 1) dX3_sizeOf_24 3 rfl rfl (by decide) (L' := [(3, .int (v3_1 + 1)), (2, .int (v2_1 + 1)), (0, .ref (ad 26)), (1, .int v1_1)]) rfl ?_
  refine G_goto 4 dX3_sizeOf_27 (by decide) ?_
  refine G_sub [2, 3, 1, 0] rfl ?_
  exact hag (v2_1 + 1, v3_1 + 1)
  refine G_iinc (v3_1 + 1) dX3_sizeOf_24 3 rfl rfl (by decide) (L' := [(3, .int (v3_1 + 1)), (0, .ref (ad 26)), (1, .int v1_1), (2, .int v2_1)]) rfl ?_
  refine G_goto 4 dX3_sizeOf_27 (by decide) ?_
  refine G_sub [1, 2, 3, 0] rfl ?_
  exact hag (v2_1, v3_1 + 1)

set_option maxRecDepth 100000 in
set_option maxHeartbeats 4000000 in
theorem m_Pa_sizeOf (v1 : Int32) (M : Mem) : MC mi_Pa_sizeOf (φI M) (fun ad => [.ref (ad 26), .int v1]) M (Pa_sizeOf v1 M) := by
  refine MC_of rfl (by decide +kernel) (fun ad => [(0, .ref (ad 26)), (1, .int v1)]) (fun _ => rfl) (fun _ => Nat.le_of_ble_eq_true rfl) (fun X ad => ?_)
  show G X ad mi_Pa_sizeOf (φI M) 0 [(0, .ref (ad 26)), (1, .int v1)] [] M _
  unfold Pa_sizeOf
  refine G_iconst (v := 0) dX3_sizeOf_0 rfl ?_
  refine G_istore_n 2 rfl dX3_sizeOf_1 (by decide) (L' := [(2, .int 0), (0, .ref (ad 26)), (1, .int v1)]) rfl ?_
  refine G_iconst (v := 0) dX3_sizeOf_2 rfl ?_
  refine G_istore_n 3 rfl dX3_sizeOf_3 (by decide) (L' := [(3, .int 0), (2, .int 0), (0, .ref (ad 26)), (1, .int v1)]) rfl ?_
  refine G_sub [2, 3, 1, 0] rfl ?_
  refine w_Pa_sizeOf_L4 X ad v1 M _ (fun v2_2 => ?_) _ _
  refine G_iload_n dX3_sizeOf_30 0 rfl ?_
  exact G_ireturn rfl rfl dX3_sizeOf_31 rfl

