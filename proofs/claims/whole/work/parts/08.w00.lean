/-! printed by wip/whole/gen.py: the bytecode does what the functions say -/
set_option maxRecDepth 100000 in
set_option maxHeartbeats 4000000 in
theorem m_SP_at (k0 : Nat) (hk0 : isA k0) (v1 : Int32) (M : Mem) : MC mi_SP_at (φI M) (fun ad => [.ref (ad k0), .int v1]) M (SP_at k0 v1 M) := by
  refine MC_of rfl (by decide +kernel) (fun ad => [(0, .ref (ad k0)), (1, .int v1)]) (fun _ => rfl) (fun _ => Nat.le_of_ble_eq_true rfl) (fun X ad => ?_)
  show G X ad mi_SP_at (φI M) 0 [(0, .ref (ad k0)), (1, .int v1)] [] M _
  unfold SP_at
  refine G_aload_n dX9_at_0 0 rfl ?_
  refine G_ifnull dX9_at_1 ?_
  refine G_iload_n dX9_at_4 1 rfl ?_
  refine G_if_lt 20 dX9_at_5 (by decide) (fun _ => ?_) (fun _ => ?_)
  refine G_iconst (v := 0) dX9_at_20 rfl ?_
  exact G_ireturn rfl rfl dX9_at_21 rfl
  refine G_iload_n dX9_at_8 1 rfl ?_
  refine G_aload_n dX9_at_9 0 rfl ?_
  refine G_alen hk0.1 hk0.2 dX9_at_10 ?_
  refine G_icmp_ge 20 dX9_at_11 (by decide) (fun _ => ?_) (fun _ => ?_)
  refine G_iconst (v := 0) dX9_at_20 rfl ?_
  exact G_ireturn rfl rfl dX9_at_21 rfl
  refine G_aload_n dX9_at_14 0 rfl ?_
  refine G_iload_n dX9_at_15 1 rfl ?_
  refine G_iald hk0.1 hk0.2 dX9_at_16 ?_
  refine G_goto 21 dX9_at_17 (by decide) ?_
  exact G_ireturn rfl rfl dX9_at_21 rfl

set_option maxRecDepth 100000 in
set_option maxHeartbeats 4000000 in
theorem m_SP_put (k0 : Nat) (hk0 : isA k0) (v1 : Int32) (v2 : Int32) (M : Mem) : MC mi_SP_put (φV) (fun ad => [.ref (ad k0), .int v1, .int v2]) M (SP_put k0 v1 v2 M) := by
  refine MC_of rfl (by decide +kernel) (fun ad => [(0, .ref (ad k0)), (1, .int v1), (2, .int v2)]) (fun _ => rfl) (fun _ => Nat.le_of_ble_eq_true rfl) (fun X ad => ?_)
  show G X ad mi_SP_put (φV) 0 [(0, .ref (ad k0)), (1, .int v1), (2, .int v2)] [] M _
  unfold SP_put
  refine G_aload_n dX9_put_0 0 rfl ?_
  refine G_ifnull dX9_put_1 ?_
  refine G_iload_n dX9_put_4 1 rfl ?_
  refine G_if_lt 18 dX9_put_5 (by decide) (fun _ => ?_) (fun _ => ?_)
  exact G_return rfl rfl dX9_put_18 rfl
  refine G_iload_n dX9_put_8 1 rfl ?_
  refine G_aload_n dX9_put_9 0 rfl ?_
  refine G_alen hk0.1 hk0.2 dX9_put_10 ?_
  refine G_icmp_ge 18 dX9_put_11 (by decide) (fun _ => ?_) (fun _ => ?_)
  exact G_return rfl rfl dX9_put_18 rfl
  refine G_aload_n dX9_put_14 0 rfl ?_
  refine G_iload_n dX9_put_15 1 rfl ?_
  refine G_iload_n dX9_put_16 2 rfl ?_
  refine G_iast hk0.1 hk0.2 dX9_put_17 (fun M1 => ?_)
  exact G_return rfl rfl dX9_put_18 rfl

set_option maxRecDepth 100000 in
set_option maxHeartbeats 4000000 in
theorem m_SP_refuse (v1 : Int32) (M : Mem) : MC mi_SP_refuse (φIM) (fun ad => [.ref (ad 0), .int v1]) M (SP_refuse v1 M) := by
  refine MC_of rfl (by decide +kernel) (fun ad => [(0, .ref (ad 0)), (1, .int v1)]) (fun _ => rfl) (fun _ => Nat.le_of_ble_eq_true rfl) (fun X ad => ?_)
  show G X ad mi_SP_refuse (φIM) 0 [(0, .ref (ad 0)), (1, .int v1)] [] M _
  unfold SP_refuse
  refine G_aload_n dX9_refuse_0 0 rfl ?_
  refine G_getR hclX9 (by decide) rfl 11 (by decide) rfl wd_318 dX9_refuse_1 ?_
  refine G_iload_n dX9_refuse_4 1 rfl ?_
  refine G_ineg dX9_refuse_5 ?_
  refine G_aload_n dX9_refuse_6 0 rfl ?_
  refine G_getR hclX9 (by decide) rfl 11 (by decide) rfl wd_318 dX9_refuse_7 ?_
  refine G_iload_n dX9_refuse_10 1 rfl ?_
  refine G_ineg dX9_refuse_11 ?_
  refine G_callS_I (m_SP_at 32 isA_32 _ M) cal_SP_at ⟨Nat.le_of_ble_eq_true rfl, Nat.le_of_ble_eq_true rfl⟩ wd_355 rfl rfl (Nat.le_of_ble_eq_true rfl) dX9_refuse_12 (fun r_1 => ?_)
  refine G_iconst (v := 1) dX9_refuse_15 rfl ?_
  refine G_iadd dX9_refuse_16 ?_
  refine G_callS_V (m_SP_put 32 isA_32 _ _ M) cal_SP_put ⟨Nat.le_of_ble_eq_true rfl, Nat.le_of_ble_eq_true rfl⟩ wd_358 rfl rfl (Nat.le_of_ble_eq_true rfl) dX9_refuse_17 (fun M1 => ?_)
  refine G_iload_n dX9_refuse_20 1 rfl ?_
  exact G_ireturn rfl rfl dX9_refuse_21 rfl

set_option maxRecDepth 100000 in
set_option maxHeartbeats 4000000 in
theorem m_Td_drain (k0 : Nat) (hk0 : isT k0) (M : Mem) : MC mi_Td_drain (φV) (fun ad => [.ref (ad k0)]) M (Td_drain k0 M) := by
  refine MC_of rfl (by decide +kernel) (fun ad => [(0, .ref (ad k0))]) (fun _ => rfl) (fun _ => Nat.le_of_ble_eq_true rfl) (fun X ad => ?_)
  show G X ad mi_Td_drain (φV) 0 [(0, .ref (ad k0))] [] M _
  unfold Td_drain
  refine G_aload_n dX6_drain_0 0 rfl ?_
  refine G_iconst (v := 0) dX6_drain_1 rfl ?_
  refine G_put hclX6 (Nat.lt_of_succ_lt hk0.1) hk0.2.1 1 (by decide) rfl rfl (by decide +kernel) wd_165 dX6_drain_2 (fun M1 => ?_)
  exact G_return rfl rfl dX6_drain_5 rfl

set_option maxRecDepth 100000 in
set_option maxHeartbeats 4000000 in
theorem w_SP_wipe_L7 (X : Cx) (ad : Nat → Nat) (k0 : Nat) (hk0 : isA k0) (kx : Mem → Option Mem) (hkx : ∀ (Me : Mem), G X ad mi_SP_wipe (φV) 23 [] [] Me (kx Me)) : ∀ (n : Nat) (s : Int32 × Mem), G X ad mi_SP_wipe (φV) 7 [(0, .ref (ad k0)), (1, .int s.1)] [] s.2 (LOOP (fun aq sq => SP_wipe_L7 k0 kx aq sq.1 sq.2) n s) := by
  refine LOOP_rule (fun (s : Int32 × Mem) o => G X ad mi_SP_wipe (φV) 7 [(0, .ref (ad k0)), (1, .int s.1)] [] s.2 o) (fun _ => G_none) (fun ag hag s => ?_)
  obtain ⟨v1_1, M1⟩ := s
  show G X ad mi_SP_wipe (φV) 7 [(0, .ref (ad k0)), (1, .int v1_1)] [] M1 (SP_wipe_L7 k0 kx ag v1_1 M1)
  unfold SP_wipe_L7
  refine G_iload_n dX9_wipe_7 1 rfl ?_
  refine G_aload_n dX9_wipe_8 0 rfl ?_
  refine G_alen hk0.1 hk0.2 dX9_wipe_9 ?_
  refine G_icmp_ge 23 dX9_wipe_10 (by decide) (fun _ => ?_) (fun _ => ?_)
  refine G_sub [] rfl ?_
  exact hkx M1
  refine G_aload_n dX9_wipe_13 0 rfl ?_
  refine G_iload_n dX9_wipe_14 1 rfl ?_
  refine G_iconst (v := 0) dX9_wipe_15 rfl ?_
  refine G_iast hk0.1 hk0.2 dX9_wipe_16 (fun M2 => ?_)
  refine G_iinc (v1_1 + 1) dX9_wipe_17 1 rfl rfl (by decide) (L' := [(1, .int (v1_1 + 1)), (0, .ref (ad k0))]) rfl ?_
  refine G_goto 7 dX9_wipe_20 (by decide) ?_
  refine G_sub [1, 0] rfl ?_
  exact hag (v1_1 + 1, M2)

set_option maxRecDepth 100000 in
set_option maxHeartbeats 4000000 in
theorem m_SP_wipe (k0 : Nat) (hk0 : isA k0) (M : Mem) : MC mi_SP_wipe (φV) (fun ad => [.ref (ad k0)]) M (SP_wipe k0 M) := by
  refine MC_of rfl (by decide +kernel) (fun ad => [(0, .ref (ad k0))]) (fun _ => rfl) (fun _ => Nat.le_of_ble_eq_true rfl) (fun X ad => ?_)
  show G X ad mi_SP_wipe (φV) 0 [(0, .ref (ad k0))] [] M _
  unfold SP_wipe
  refine G_aload_n dX9_wipe_0 0 rfl ?_
  refine G_ifnonnull 5 dX9_wipe_1 (by decide) ?_
  refine G_iconst (v := 0) dX9_wipe_5 rfl ?_
  refine G_istore_n 1 rfl dX9_wipe_6 (by decide) (L' := [(1, .int 0), (0, .ref (ad k0))]) rfl ?_
  refine G_sub [1, 0] rfl ?_
  refine w_SP_wipe_L7 X ad k0 hk0 _ (fun M3 => ?_) _ _
  exact G_return rfl rfl dX9_wipe_23 rfl

set_option maxRecDepth 100000 in
set_option maxHeartbeats 4000000 in
theorem m_To_settle (v1 : Int32) (M : Mem) : MC mi_To_settle (φV) (fun ad => [.ref (ad 1), .int v1]) M (To_settle v1 M) := by
  refine MC_of rfl (by decide +kernel) (fun ad => [(0, .ref (ad 1)), (1, .int v1)]) (fun _ => rfl) (fun _ => Nat.le_of_ble_eq_true rfl) (fun X ad => ?_)
  show G X ad mi_To_settle (φV) 0 [(0, .ref (ad 1)), (1, .int v1)] [] M _
  unfold To_settle
  refine G_aload_n dX7_settle_0 0 rfl ?_
  refine G_iload_n dX7_settle_1 1 rfl ?_
  refine G_put hclX7 (by decide) rfl 2 (by decide) rfl rfl (by decide +kernel) wd_144 dX7_settle_2 (fun M1 => ?_)
  refine G_aload_n dX7_settle_5 0 rfl ?_
  refine G_getR hclX7 (by decide) rfl 0 (by decide) rfl wd_139 dX7_settle_6 ?_
  refine G_callSN_V (m_SP_wipe 2 isA_2 M1) cal_SP_wipe ⟨Nat.le_of_ble_eq_true rfl, Nat.le_of_ble_eq_true rfl⟩ wn_304 rfl rfl (Nat.le_of_ble_eq_true rfl) dX7_settle_9 (fun M2 => ?_)
  exact G_return rfl rfl dX7_settle_12 rfl

set_option maxRecDepth 100000 in
set_option maxHeartbeats 4000000 in
theorem m_SP_persons (v1 : Int32) (M : Mem) : MC mi_SP_persons (φIM) (fun ad => [.ref (ad 0), .int v1]) M (SP_persons v1 M) := by
  refine MC_of rfl (by decide +kernel) (fun ad => [(0, .ref (ad 0)), (1, .int v1)]) (fun _ => rfl) (fun _ => Nat.le_of_ble_eq_true rfl) (fun X ad => ?_)
  show G X ad mi_SP_persons (φIM) 0 [(0, .ref (ad 0)), (1, .int v1)] [] M _
  unfold SP_persons
  refine G_iload_n dX9_persons_0 1 rfl ?_
  refine G_iconst (v := 1) dX9_persons_1 rfl ?_
  refine G_icmp_ge 12 dX9_persons_2 (by decide) (fun _ => ?_) (fun _ => ?_)
  refine G_iload_n dX9_persons_12 1 rfl ?_
  refine G_bipush (v := 7) dX9_persons_13 rfl ?_
  refine G_icmp_le 25 dX9_persons_15 (by decide) (fun _ => ?_) (fun _ => ?_)
  refine G_aload_n dX9_persons_25 0 rfl ?_
  refine G_getR hclX9 (by decide) rfl 0 (by decide) rfl wd_307 dX9_persons_26 ?_
  refine G_getIN hclX7 (by decide) rfl 2 (by decide) rfl wn_147 dX9_persons_29 ?_
  refine G_nmI (fun v2_1 => ?_)
  refine G_istore_n 2 rfl dX9_persons_32 (by decide) (L' := [(2, .int v2_1), (0, .ref (ad 0)), (1, .int v1)]) rfl ?_
  refine G_aload_n dX9_persons_33 1 rfl ?_
  refine G_getR hclX9 (by decide) rfl 0 (by decide) rfl wd_307 dX9_persons_34 ?_
  refine G_iload_n dX9_persons_37 2 rfl ?_
  refine G_callVN_V (m_To_settle _ M) cal_To_settle ⟨Nat.le_of_ble_eq_true rfl, Nat.le_of_ble_eq_true rfl⟩ wn_300 hclX7 (by decide) rfl [.int v1] rfl rfl rfl (Nat.le_of_ble_eq_true rfl) dX9_persons_38 (fun M1 => ?_)
  refine G_aload_n dX9_persons_41 1 rfl ?_
  refine G_getR hclX9 (by decide) rfl 1 (by decide) rfl wd_308 dX9_persons_42 ?_
  refine G_callVN_V (m_Td_drain 4 isT_4 M1) cal_Td_drain ⟨Nat.le_of_ble_eq_true rfl, Nat.le_of_ble_eq_true rfl⟩ wn_361 hclX6 (by decide) rfl [] rfl rfl rfl (Nat.le_of_ble_eq_true rfl) dX9_persons_45 (fun M2 => ?_)
  refine G_aload_n dX9_persons_48 1 rfl ?_
  refine G_getR hclX9 (by decide) rfl 3 (by decide) rfl wd_310 dX9_persons_49 ?_
  refine G_iconst (v := 0) dX9_persons_52 rfl ?_
  refine G_putN hclX2 (by decide) rfl 3 (by decide) rfl rfl (by decide +kernel) wn_210 dX9_persons_53 (fun M3 => ?_)
  refine G_iload_n dX9_persons_56 0 rfl ?_
  exact G_ireturn rfl rfl dX9_persons_57 rfl
  refine G_aload_n dX9_persons_18 0 rfl ?_
  refine G_bipush (v := -6) dX9_persons_19 rfl ?_
  refine G_callV_IM (m_SP_refuse _ M) cal_SP_refuse ⟨Nat.le_of_ble_eq_true rfl, Nat.le_of_ble_eq_true rfl⟩ wd_351 hclX9 (by decide) rfl [.int (-6)] rfl rfl rfl (Nat.le_of_ble_eq_true rfl) dX9_persons_21 (fun r_1 M4 => ?_)
  exact G_ireturn rfl rfl dX9_persons_24 rfl
  refine G_aload_n dX9_persons_5 0 rfl ?_
  refine G_bipush (v := -4) dX9_persons_6 rfl ?_
  refine G_callV_IM (m_SP_refuse _ M) cal_SP_refuse ⟨Nat.le_of_ble_eq_true rfl, Nat.le_of_ble_eq_true rfl⟩ wd_351 hclX9 (by decide) rfl [.int (-4)] rfl rfl rfl (Nat.le_of_ble_eq_true rfl) dX9_persons_8 (fun r_2 M5 => ?_)
  exact G_ireturn rfl rfl dX9_persons_11 rfl

set_option maxRecDepth 100000 in
set_option maxHeartbeats 4000000 in
theorem m_To_lives (v1 : Int32) (M : Mem) : MC mi_To_lives (φI M) (fun ad => [.ref (ad 1), .int v1]) M (To_lives v1 M) := by
  refine MC_of rfl (by decide +kernel) (fun ad => [(0, .ref (ad 1)), (1, .int v1)]) (fun _ => rfl) (fun _ => Nat.le_of_ble_eq_true rfl) (fun X ad => ?_)
  show G X ad mi_To_lives (φI M) 0 [(0, .ref (ad 1)), (1, .int v1)] [] M _
  unfold To_lives
  refine G_iload_n dX7_lives_0 1 rfl ?_
  refine G_if_lt 16 dX7_lives_1 (by decide) (fun _ => ?_) (fun _ => ?_)
  refine G_iconst (v := 0) dX7_lives_16 rfl ?_
  exact G_zreturn rfl rfl dX7_lives_17 rfl
  refine G_iload_n dX7_lives_4 1 rfl ?_
  refine G_aload_n dX7_lives_5 0 rfl ?_
  refine G_getI hclX7 (by decide) rfl 2 (by decide) rfl wd_144 dX7_lives_6 ?_
  refine G_icmp_ge 16 dX7_lives_9 (by decide) (fun _ => ?_) (fun _ => ?_)
  refine G_iconst (v := 0) dX7_lives_16 rfl ?_
  exact G_zreturn rfl rfl dX7_lives_17 rfl
  refine G_iconst (v := 1) dX7_lives_12 rfl ?_
  refine G_goto 17 dX7_lives_13 (by decide) ?_
  exact G_zreturn rfl rfl dX7_lives_17 rfl

set_option maxRecDepth 100000 in
set_option maxHeartbeats 4000000 in
theorem m_SP_mark (v1 : Int32) (v2 : Int32) (M : Mem) : MC mi_SP_mark (φIM) (fun ad => [.ref (ad 0), .int v1, .int v2]) M (SP_mark v1 v2 M) := by
  refine MC_of rfl (by decide +kernel) (fun ad => [(0, .ref (ad 0)), (1, .int v1), (2, .int v2)]) (fun _ => rfl) (fun _ => Nat.le_of_ble_eq_true rfl) (fun X ad => ?_)
  show G X ad mi_SP_mark (φIM) 0 [(0, .ref (ad 0)), (1, .int v1), (2, .int v2)] [] M _
  unfold SP_mark
  refine G_aload_n dX9_mark_0 0 rfl ?_
  refine G_getR hclX9 (by decide) rfl 0 (by decide) rfl wd_307 dX9_mark_1 ?_
  refine G_iload_n dX9_mark_4 1 rfl ?_
  refine G_callVN_I (m_To_lives _ M) cal_To_lives ⟨Nat.le_of_ble_eq_true rfl, Nat.le_of_ble_eq_true rfl⟩ wn_369 hclX7 (by decide) rfl [.int v1] rfl rfl rfl (Nat.le_of_ble_eq_true rfl) dX9_mark_5 (fun r_1 => ?_)
  refine G_if_ne 17 dX9_mark_8 (by decide) (fun _ => ?_) (fun _ => ?_)
  refine G_aload_n dX9_mark_11 0 rfl ?_
  refine G_iconst (v := -1) dX9_mark_12 rfl ?_
  refine G_callV_IM (m_SP_refuse _ M) cal_SP_refuse ⟨Nat.le_of_ble_eq_true rfl, Nat.le_of_ble_eq_true rfl⟩ wd_351 hclX9 (by decide) rfl [.int (-1)] rfl rfl rfl (Nat.le_of_ble_eq_true rfl) dX9_mark_13 (fun r_2 M1 => ?_)
  exact G_ireturn rfl rfl dX9_mark_16 rfl
  refine G_iload_n dX9_mark_17 2 rfl ?_
  refine G_if_ge 28 dX9_mark_18 (by decide) (fun _ => ?_) (fun _ => ?_)
  refine G_iload_n dX9_mark_28 2 rfl ?_
  refine G_iconst (v := 3) dX9_mark_29 rfl ?_
  refine G_icmp_le 40 dX9_mark_30 (by decide) (fun _ => ?_) (fun _ => ?_)
  refine G_aload_n dX9_mark_40 0 rfl ?_
  refine G_getR hclX9 (by decide) rfl 0 (by decide) rfl wd_307 dX9_mark_41 ?_
  refine G_getRN hclX7 (by decide) rfl 0 (by decide) rfl wn_140 dX9_mark_44 ?_
  refine G_iload_n dX9_mark_47 1 rfl ?_
  refine G_callS_I (m_SP_at 2 isA_2 _ M) cal_SP_at ⟨Nat.le_of_ble_eq_true rfl, Nat.le_of_ble_eq_true rfl⟩ wd_355 rfl rfl (Nat.le_of_ble_eq_true rfl) dX9_mark_48 (fun r_3 => ?_)
  refine G_istore_n 3 rfl dX9_mark_51 (by decide) (L' := [(3, .int r_3), (0, .ref (ad 0)), (1, .int v1), (2, .int v2)]) rfl ?_
  refine G_aload_n dX9_mark_52 1 rfl ?_
  refine G_getR hclX9 (by decide) rfl 0 (by decide) rfl wd_307 dX9_mark_53 ?_
  refine G_getRN hclX7 (by decide) rfl 0 (by decide) rfl wn_140 dX9_mark_56 ?_
  refine G_iload_n dX9_mark_59 2 rfl ?_
  refine G_iload_n dX9_mark_60 3 rfl ?_
  refine G_callS_V (m_SP_put 2 isA_2 _ _ M) cal_SP_put ⟨Nat.le_of_ble_eq_true rfl, Nat.le_of_ble_eq_true rfl⟩ wd_358 rfl rfl (Nat.le_of_ble_eq_true rfl) dX9_mark_61 (fun M2 => ?_)
  refine G_iload_n dX9_mark_64 0 rfl ?_
  exact G_ireturn rfl rfl dX9_mark_65 rfl
  refine G_aload_n dX9_mark_33 0 rfl ?_
  refine G_bipush (v := -6) dX9_mark_34 rfl ?_
  refine G_callV_IM (m_SP_refuse _ M) cal_SP_refuse ⟨Nat.le_of_ble_eq_true rfl, Nat.le_of_ble_eq_true rfl⟩ wd_351 hclX9 (by decide) rfl [.int (-6)] rfl rfl rfl (Nat.le_of_ble_eq_true rfl) dX9_mark_36 (fun r_4 M3 => ?_)
  exact G_ireturn rfl rfl dX9_mark_39 rfl
  refine G_aload_n dX9_mark_21 0 rfl ?_
  refine G_bipush (v := -4) dX9_mark_22 rfl ?_
  refine G_callV_IM (m_SP_refuse _ M) cal_SP_refuse ⟨Nat.le_of_ble_eq_true rfl, Nat.le_of_ble_eq_true rfl⟩ wd_351 hclX9 (by decide) rfl [.int (-4)] rfl rfl rfl (Nat.le_of_ble_eq_true rfl) dX9_mark_24 (fun r_5 M4 => ?_)
  exact G_ireturn rfl rfl dX9_mark_27 rfl

set_option maxRecDepth 100000 in
set_option maxHeartbeats 4000000 in
theorem m_SP_year (v1 : Int32) (M : Mem) : MC mi_SP_year (φIM) (fun ad => [.ref (ad 0), .int v1]) M (SP_year v1 M) := by
  refine MC_of rfl (by decide +kernel) (fun ad => [(0, .ref (ad 0)), (1, .int v1)]) (fun _ => rfl) (fun _ => Nat.le_of_ble_eq_true rfl) (fun X ad => ?_)
  show G X ad mi_SP_year (φIM) 0 [(0, .ref (ad 0)), (1, .int v1)] [] M _
  unfold SP_year
  refine G_iload_n dX9_year_0 1 rfl ?_
  refine G_if_ge 11 dX9_year_1 (by decide) (fun _ => ?_) (fun _ => ?_)
  refine G_iload_n dX9_year_11 1 rfl ?_
  refine G_bipush (v := 100) dX9_year_12 rfl ?_
  refine G_icmp_le 24 dX9_year_14 (by decide) (fun _ => ?_) (fun _ => ?_)
  refine G_aload_n dX9_year_24 0 rfl ?_
  refine G_getI hclX9 (by decide) rfl 12 (by decide) rfl wd_319 dX9_year_25 ?_
  refine G_nmI (fun v2_1 => ?_)
  refine G_istore_n 2 rfl dX9_year_28 (by decide) (L' := [(2, .int v2_1), (0, .ref (ad 0)), (1, .int v1)]) rfl ?_
  refine G_aload_n dX9_year_29 1 rfl ?_
  refine G_iload_n dX9_year_30 2 rfl ?_
  refine G_put hclX9 (by decide) rfl 12 (by decide) rfl rfl (by decide +kernel) wd_319 dX9_year_31 (fun M1 => ?_)
  refine G_iload_n dX9_year_34 0 rfl ?_
  exact G_ireturn rfl rfl dX9_year_35 rfl
  refine G_aload_n dX9_year_17 0 rfl ?_
  refine G_bipush (v := -6) dX9_year_18 rfl ?_
  refine G_callV_IM (m_SP_refuse _ M) cal_SP_refuse ⟨Nat.le_of_ble_eq_true rfl, Nat.le_of_ble_eq_true rfl⟩ wd_351 hclX9 (by decide) rfl [.int (-6)] rfl rfl rfl (Nat.le_of_ble_eq_true rfl) dX9_year_20 (fun r_1 M2 => ?_)
  exact G_ireturn rfl rfl dX9_year_23 rfl
  refine G_aload_n dX9_year_4 0 rfl ?_
  refine G_bipush (v := -4) dX9_year_5 rfl ?_
  refine G_callV_IM (m_SP_refuse _ M) cal_SP_refuse ⟨Nat.le_of_ble_eq_true rfl, Nat.le_of_ble_eq_true rfl⟩ wd_351 hclX9 (by decide) rfl [.int (-4)] rfl rfl rfl (Nat.le_of_ble_eq_true rfl) dX9_year_7 (fun r_2 M3 => ?_)
  exact G_ireturn rfl rfl dX9_year_10 rfl

set_option maxRecDepth 100000 in
set_option maxHeartbeats 4000000 in
theorem m_Ta_append (v1 : Int32) (M : Mem) : MC mi_Ta_append (φV) (fun ad => [.ref (ad 6), .int v1]) M (Ta_append v1 M) := by
  refine MC_of rfl (by decide +kernel) (fun ad => [(0, .ref (ad 6)), (1, .int v1)]) (fun _ => rfl) (fun _ => Nat.le_of_ble_eq_true rfl) (fun X ad => ?_)
  show G X ad mi_Ta_append (φV) 0 [(0, .ref (ad 6)), (1, .int v1)] [] M _
  unfold Ta_append
  refine G_aload_n dX5_append_0 0 rfl ?_
  refine G_getI hclX5 (by decide) rfl 2 (by decide) rfl wd_184 dX5_append_1 ?_
  refine G_bipush (v := 60) dX5_append_4 rfl ?_
  refine G_icmp_ge 31 dX5_append_6 (by decide) (fun _ => ?_) (fun _ => ?_)
  exact G_return rfl rfl dX5_append_31 rfl
  refine G_aload_n dX5_append_9 0 rfl ?_
  refine G_getR hclX5 (by decide) rfl 0 (by decide) rfl wd_181 dX5_append_10 ?_
  refine G_aload_n dX5_append_13 0 rfl ?_
  refine G_getI hclX5 (by decide) rfl 2 (by decide) rfl wd_184 dX5_append_14 ?_
  refine G_iload_n dX5_append_17 1 rfl ?_
  refine G_callSN_V (m_SP_put 7 isA_7 _ _ M) cal_SP_put ⟨Nat.le_of_ble_eq_true rfl, Nat.le_of_ble_eq_true rfl⟩ wn_385 rfl rfl (Nat.le_of_ble_eq_true rfl) dX5_append_18 (fun M1 => ?_)
  refine G_aload_n dX5_append_21 0 rfl ?_
  refine G_dup dX5_append_22 rfl ?_
  refine G_getI hclX5 (by decide) rfl 2 (by decide) rfl wd_184 dX5_append_23 ?_
  refine G_iconst (v := 1) dX5_append_26 rfl ?_
  refine G_iadd dX5_append_27 ?_
  refine G_put hclX5 (by decide) rfl 2 (by decide) rfl rfl (by decide +kernel) wd_184 dX5_append_28 (fun M2 => ?_)
  exact G_return rfl rfl dX5_append_31 rfl

set_option maxRecDepth 100000 in
set_option maxHeartbeats 4000000 in
theorem w_SP_feed_L42 (X : Cx) (ad : Nat → Nat) (v1_1 : Int32) (v2_1 : Int64) (kx : Mem → Option (Int32 × Mem)) (hkx : ∀ (Me : Mem), G X ad mi_SP_feed (φIM) 73 [(0, .ref (ad 0))] [] Me (kx Me)) : ∀ (n : Nat) (s : Int32 × Mem), G X ad mi_SP_feed (φIM) 42 [(0, .ref (ad 0)), (1, .int v1_1), (2, .long v2_1), (4, .int s.1)] [] s.2 (LOOP (fun aq sq => SP_feed_L42 v1_1 v2_1 kx aq sq.1 sq.2) n s) := by
  refine LOOP_rule (fun (s : Int32 × Mem) o => G X ad mi_SP_feed (φIM) 42 [(0, .ref (ad 0)), (1, .int v1_1), (2, .long v2_1), (4, .int s.1)] [] s.2 o) (fun _ => G_none) (fun ag hag s => ?_)
  obtain ⟨v4_1, M2⟩ := s
  show G X ad mi_SP_feed (φIM) 42 [(0, .ref (ad 0)), (1, .int v1_1), (2, .long v2_1), (4, .int v4_1)] [] M2 (SP_feed_L42 v1_1 v2_1 kx ag v4_1 M2)
  unfold SP_feed_L42
  refine G_iload dX9_feed_42 3 rfl ?_
  refine G_iload_n dX9_feed_44 1 rfl ?_
  refine G_icmp_ge 73 dX9_feed_45 (by decide) (fun _ => ?_) (fun _ => ?_)
  refine G_sub [0] rfl ?_
  exact hkx M2
  refine G_aload_n dX9_feed_48 0 rfl ?_
  refine G_getR hclX9 (by decide) rfl 2 (by decide) rfl wd_309 dX9_feed_49 ?_
  refine G_lload_n dX9_feed_52 2 rfl ?_
  refine G_bipush (v := 8) dX9_feed_53 rfl ?_
  refine G_iload dX9_feed_55 3 rfl ?_
  refine G_imul dX9_feed_57 ?_
  refine G_lushr dX9_feed_58 ?_
  refine G_l2i dX9_feed_59 ?_
  refine G_sipush (v := 255) dX9_feed_60 rfl ?_
  refine G_iand dX9_feed_63 ?_
  refine G_callVN_V (m_Ta_append _ M2) cal_Ta_append ⟨Nat.le_of_ble_eq_true rfl, Nat.le_of_ble_eq_true rfl⟩ wn_381 hclX5 (by decide) rfl [.int ((((v2_1.toUInt64 >>> ((8 * v4_1).toInt64.toUInt64 &&& Int64.toUInt64 63)).toInt64).toInt32) &&& 255)] rfl rfl rfl (Nat.le_of_ble_eq_true rfl) dX9_feed_64 (fun M3 => ?_)
  refine G_iinc (v4_1 + 1) dX9_feed_67 3 rfl rfl (by decide) (L' := [(4, .int (v4_1 + 1)), (0, .ref (ad 0)), (1, .int v1_1), (2, .long v2_1)]) rfl ?_
  refine G_goto 42 dX9_feed_70 (by decide) ?_
  refine G_sub [1, 2, 3, 0] rfl ?_
  exact hag (v4_1 + 1, M3)

set_option maxRecDepth 100000 in
set_option maxHeartbeats 4000000 in
theorem m_SP_feed (v1 : Int32) (v2 : Int64) (M : Mem) : MC mi_SP_feed (φIM) (fun ad => [.ref (ad 0), .int v1, .long v2]) M (SP_feed v1 v2 M) := by
  refine MC_of rfl (by decide +kernel) (fun ad => [(0, .ref (ad 0)), (1, .int v1), (2, .long v2)]) (fun _ => rfl) (fun _ => Nat.le_of_ble_eq_true rfl) (fun X ad => ?_)
  show G X ad mi_SP_feed (φIM) 0 [(0, .ref (ad 0)), (1, .int v1), (2, .long v2)] [] M _
  unfold SP_feed
  refine G_iload_n dX9_feed_0 1 rfl ?_
  refine G_iconst (v := 1) dX9_feed_1 rfl ?_
  refine G_icmp_ge 12 dX9_feed_2 (by decide) (fun _ => ?_) (fun _ => ?_)
  refine G_iload_n dX9_feed_12 1 rfl ?_
  refine G_bipush (v := 8) dX9_feed_13 rfl ?_
  refine G_jp (fun kq => G X ad mi_SP_feed (φIM) 32 [(0, .ref (ad 0))] [] M (kq)) ?_ (fun k_1 hk_1 => ?_)
  refine G_aload_n dX9_feed_32 0 rfl ?_
  refine G_bipush (v := -6) dX9_feed_33 rfl ?_
  refine G_callV_IM (m_SP_refuse _ M) cal_SP_refuse ⟨Nat.le_of_ble_eq_true rfl, Nat.le_of_ble_eq_true rfl⟩ wd_351 hclX9 (by decide) rfl [.int (-6)] rfl rfl rfl (Nat.le_of_ble_eq_true rfl) dX9_feed_35 (fun r_1 M1 => ?_)
  exact G_ireturn rfl rfl dX9_feed_38 rfl
  refine G_icmp_gt 32 dX9_feed_15 (by decide) (fun _ => ?_) (fun _ => ?_)
  refine G_sub [0] rfl ?_
  exact hk_1
  refine G_aload_n dX9_feed_18 0 rfl ?_
  refine G_getR hclX9 (by decide) rfl 2 (by decide) rfl wd_309 dX9_feed_19 ?_
  refine G_getIN hclX5 (by decide) rfl 2 (by decide) rfl wn_185 dX9_feed_22 ?_
  refine G_iload_n dX9_feed_25 1 rfl ?_
  refine G_iadd dX9_feed_26 ?_
  refine G_bipush (v := 60) dX9_feed_27 rfl ?_
  refine G_icmp_le 39 dX9_feed_29 (by decide) (fun _ => ?_) (fun _ => ?_)
  refine G_iconst (v := 0) dX9_feed_39 rfl ?_
  refine G_istore dX9_feed_40 (by decide) (L' := [(4, .int 0), (0, .ref (ad 0)), (1, .int v1), (2, .long v2)]) rfl ?_
  refine G_sub [1, 2, 3, 0] rfl ?_
  refine w_SP_feed_L42 X ad v1 v2 _ (fun M4 => ?_) _ _
  refine G_aload_n dX9_feed_73 0 rfl ?_
  refine G_getR hclX9 (by decide) rfl 2 (by decide) rfl wd_309 dX9_feed_74 ?_
  refine G_getIN hclX5 (by decide) rfl 2 (by decide) rfl wn_185 dX9_feed_77 ?_
  exact G_ireturn rfl rfl dX9_feed_80 rfl
  refine G_sub [0] rfl ?_
  exact hk_1
  refine G_aload_n dX9_feed_5 0 rfl ?_
  refine G_bipush (v := -4) dX9_feed_6 rfl ?_
  refine G_callV_IM (m_SP_refuse _ M) cal_SP_refuse ⟨Nat.le_of_ble_eq_true rfl, Nat.le_of_ble_eq_true rfl⟩ wd_351 hclX9 (by decide) rfl [.int (-4)] rfl rfl rfl (Nat.le_of_ble_eq_true rfl) dX9_feed_8 (fun r_2 M5 => ?_)
  exact G_ireturn rfl rfl dX9_feed_11 rfl

set_option maxRecDepth 100000 in
set_option maxHeartbeats 4000000 in
theorem m_Td_field (k0 : Nat) (hk0 : isT k0) (v1 : Int32) (v2 : Int32) (M : Mem) : MC mi_Td_field (φI M) (fun ad => [.ref (ad k0), .int v1, .int v2]) M (Td_field k0 v1 v2 M) := by
  refine MC_of rfl (by decide +kernel) (fun ad => [(0, .ref (ad k0)), (1, .int v1), (2, .int v2)]) (fun _ => rfl) (fun _ => Nat.le_of_ble_eq_true rfl) (fun X ad => ?_)
  show G X ad mi_Td_field (φI M) 0 [(0, .ref (ad k0)), (1, .int v1), (2, .int v2)] [] M _
  unfold Td_field
  refine G_aload_n dX6_field_0 0 rfl ?_
  refine G_getR hclX6 (Nat.lt_of_succ_lt hk0.1) hk0.2.1 0 (by decide) rfl wd_164 dX6_field_1 ?_
  refine G_iload_n dX6_field_4 1 rfl ?_
  refine G_bipush (v := 6) dX6_field_5 rfl ?_
  refine G_imul dX6_field_7 ?_
  refine G_iload_n dX6_field_8 2 rfl ?_
  refine G_iadd dX6_field_9 ?_
  refine G_callSN_I (m_SP_at (k0 + 1) hk0.a _ M) cal_SP_at ⟨Nat.le_of_ble_eq_true rfl, Nat.le_of_ble_eq_true rfl⟩ wn_429 rfl rfl (Nat.le_of_ble_eq_true rfl) dX6_field_10 (fun r_1 => ?_)
  exact G_ireturn rfl rfl dX6_field_13 rfl

set_option maxRecDepth 100000 in
set_option maxHeartbeats 4000000 in
theorem m_Ta_drafted (v1 : Int32) (M : Mem) : MC mi_Ta_drafted (φI M) (fun ad => [.ref (ad 6), .int v1]) M (Ta_drafted v1 M) := by
  refine MC_of rfl (by decide +kernel) (fun ad => [(0, .ref (ad 6)), (1, .int v1)]) (fun _ => rfl) (fun _ => Nat.le_of_ble_eq_true rfl) (fun X ad => ?_)
  show G X ad mi_Ta_drafted (φI M) 0 [(0, .ref (ad 6)), (1, .int v1)] [] M _
  unfold Ta_drafted
  refine G_aload_n dX5_drafted_0 0 rfl ?_
  refine G_getR hclX5 (by decide) rfl 1 (by decide) rfl wd_182 dX5_drafted_1 ?_
  refine G_aload_n dX5_drafted_4 0 rfl ?_
  refine G_getR hclX5 (by decide) rfl 1 (by decide) rfl wd_182 dX5_drafted_5 ?_
  refine G_getIN hclX6 (by decide) rfl 1 (by decide) rfl wn_167 dX5_drafted_8 ?_
  refine G_iload_n dX5_drafted_11 1 rfl ?_
  refine G_callVN_I (m_Td_field 8 isT_8 _ _ M) cal_Td_field ⟨Nat.le_of_ble_eq_true rfl, Nat.le_of_ble_eq_true rfl⟩ wn_425 hclX6 (by decide) rfl [.int (M 8 1), .int v1] rfl rfl rfl (Nat.le_of_ble_eq_true rfl) dX5_drafted_12 (fun r_1 => ?_)
  exact G_ireturn rfl rfl dX5_drafted_15 rfl

set_option maxRecDepth 100000 in
set_option maxHeartbeats 4000000 in
theorem m_Ta_here (M : Mem) : MC mi_Ta_here (φI M) (fun ad => [.ref (ad 6)]) M (Ta_here M) := by
  refine MC_of rfl (by decide +kernel) (fun ad => [(0, .ref (ad 6))]) (fun _ => rfl) (fun _ => Nat.le_of_ble_eq_true rfl) (fun X ad => ?_)
  show G X ad mi_Ta_here (φI M) 0 [(0, .ref (ad 6))] [] M _
  unfold Ta_here
  refine G_aload_n dX5_here_0 0 rfl ?_
  refine G_getI hclX5 (by decide) rfl 3 (by decide) rfl wd_186 dX5_here_1 ?_
  refine G_aload_n dX5_here_4 0 rfl ?_
  refine G_getI hclX5 (by decide) rfl 2 (by decide) rfl wd_184 dX5_here_5 ?_
  refine G_icmp_ge 25 dX5_here_8 (by decide) (fun _ => ?_) (fun _ => ?_)
  refine G_iconst (v := -1) dX5_here_25 rfl ?_
  exact G_ireturn rfl rfl dX5_here_26 rfl
  refine G_aload_n dX5_here_11 0 rfl ?_
  refine G_getR hclX5 (by decide) rfl 0 (by decide) rfl wd_181 dX5_here_12 ?_
  refine G_aload_n dX5_here_15 0 rfl ?_
  refine G_getI hclX5 (by decide) rfl 3 (by decide) rfl wd_186 dX5_here_16 ?_
  refine G_callSN_I (m_SP_at 7 isA_7 _ M) cal_SP_at ⟨Nat.le_of_ble_eq_true rfl, Nat.le_of_ble_eq_true rfl⟩ wn_416 rfl rfl (Nat.le_of_ble_eq_true rfl) dX5_here_19 (fun r_1 => ?_)
  refine G_goto 26 dX5_here_22 (by decide) ?_
  exact G_ireturn rfl rfl dX5_here_26 rfl

set_option maxRecDepth 100000 in
set_option maxHeartbeats 4000000 in
theorem m_Td_draft (k0 : Nat) (hk0 : isT k0) (v1 : Int32) (v2 : Int32) (M : Mem) : MC mi_Td_draft (φV) (fun ad => [.ref (ad k0), .int v1, .int v2]) M (Td_draft k0 v1 v2 M) := by
  refine MC_of rfl (by decide +kernel) (fun ad => [(0, .ref (ad k0)), (1, .int v1), (2, .int v2)]) (fun _ => rfl) (fun _ => Nat.le_of_ble_eq_true rfl) (fun X ad => ?_)
  show G X ad mi_Td_draft (φV) 0 [(0, .ref (ad k0)), (1, .int v1), (2, .int v2)] [] M _
  unfold Td_draft
  refine G_aload_n dX6_draft_0 0 rfl ?_
  refine G_getR hclX6 (Nat.lt_of_succ_lt hk0.1) hk0.2.1 0 (by decide) rfl wd_164 dX6_draft_1 ?_
  refine G_aload_n dX6_draft_4 0 rfl ?_
  refine G_getI hclX6 (Nat.lt_of_succ_lt hk0.1) hk0.2.1 1 (by decide) rfl wd_165 dX6_draft_5 ?_
  refine G_bipush (v := 6) dX6_draft_8 rfl ?_
  refine G_imul dX6_draft_10 ?_
  refine G_iload_n dX6_draft_11 1 rfl ?_
  refine G_iadd dX6_draft_12 ?_
  refine G_iload_n dX6_draft_13 2 rfl ?_
  refine G_callSN_V (m_SP_put (k0 + 1) hk0.a _ _ M) cal_SP_put ⟨Nat.le_of_ble_eq_true rfl, Nat.le_of_ble_eq_true rfl⟩ wn_403 rfl rfl (Nat.le_of_ble_eq_true rfl) dX6_draft_14 (fun M1 => ?_)
  exact G_return rfl rfl dX6_draft_17 rfl

set_option maxRecDepth 100000 in
set_option maxHeartbeats 4000000 in
theorem m_Ta_readInto (v1 : Int32) (v2 : Int32) (v3 : Int32) (v4 : Int32) (M : Mem) : MC mi_Ta_readInto (φIM) (fun ad => [.ref (ad 6), .int v1, .int v2, .int v3, .int v4]) M (Ta_readInto v1 v2 v3 v4 M) := by
  refine MC_of rfl (by decide +kernel) (fun ad => [(0, .ref (ad 6)), (1, .int v1), (2, .int v2), (3, .int v3), (4, .int v4)]) (fun _ => rfl) (fun _ => Nat.le_of_ble_eq_true rfl) (fun X ad => ?_)
  show G X ad mi_Ta_readInto (φIM) 0 [(0, .ref (ad 6)), (1, .int v1), (2, .int v2), (3, .int v3), (4, .int v4)] [] M _
  unfold Ta_readInto
  refine G_aload_n dX5_readInto_0 0 rfl ?_
  refine G_callV_I (m_Ta_here M) cal_Ta_here ⟨Nat.le_of_ble_eq_true rfl, Nat.le_of_ble_eq_true rfl⟩ wd_412 hclX5 (by decide) rfl [] rfl rfl rfl (Nat.le_of_ble_eq_true rfl) dX5_readInto_1 (fun r_1 => ?_)
  refine G_istore dX5_readInto_4 (by decide) (L' := [(5, .int r_1), (0, .ref (ad 6)), (1, .int v1), (2, .int v2), (3, .int v3), (4, .int v4)]) rfl ?_
  refine G_iload dX5_readInto_6 0 rfl ?_
  refine G_iload_n dX5_readInto_8 3 rfl ?_
  refine G_icmp_lt 18 dX5_readInto_9 (by decide) (fun _ => ?_) (fun _ => ?_)
  refine G_iconst (v := 0) dX5_readInto_18 rfl ?_
  exact G_zreturn rfl rfl dX5_readInto_19 rfl
  refine G_iload dX5_readInto_12 0 rfl ?_
  refine G_iload_n dX5_readInto_14 4 rfl ?_
  refine G_icmp_le 20 dX5_readInto_15 (by decide) (fun _ => ?_) (fun _ => ?_)
  refine G_aload_n dX5_readInto_20 1 rfl ?_
  refine G_getR hclX5 (by decide) rfl 1 (by decide) rfl wd_182 dX5_readInto_21 ?_
  refine G_iload_n dX5_readInto_24 2 rfl ?_
  refine G_iload dX5_readInto_25 0 rfl ?_
  refine G_iload dX5_readInto_27 5 rfl ?_
  refine G_isub dX5_readInto_29 ?_
  refine G_callVN_V (m_Td_draft 8 isT_8 _ _ M) cal_Td_draft ⟨Nat.le_of_ble_eq_true rfl, Nat.le_of_ble_eq_true rfl⟩ wn_399 hclX6 (by decide) rfl [.int v1, .int (r_1 - v4)] rfl rfl rfl (Nat.le_of_ble_eq_true rfl) dX5_readInto_30 (fun M1 => ?_)
  refine G_aload_n dX5_readInto_33 1 rfl ?_
  refine G_dup dX5_readInto_34 rfl ?_
  refine G_getI hclX5 (by decide) rfl 3 (by decide) rfl wd_186 dX5_readInto_35 ?_
  refine G_iconst (v := 1) dX5_readInto_38 rfl ?_
  refine G_iadd dX5_readInto_39 ?_
  refine G_put hclX5 (by decide) rfl 3 (by decide) rfl rfl (by decide +kernel) wd_186 dX5_readInto_40 (fun M2 => ?_)
  refine G_iconst (v := 1) dX5_readInto_43 rfl ?_
  exact G_zreturn rfl rfl dX5_readInto_44 rfl
  refine G_iconst (v := 0) dX5_readInto_18 rfl ?_
  exact G_zreturn rfl rfl dX5_readInto_19 rfl

set_option maxRecDepth 100000 in
set_option maxHeartbeats 4000000 in
theorem m_Ta_readPerson (v1 : Int32) (M : Mem) : MC mi_Ta_readPerson (φIM) (fun ad => [.ref (ad 6), .int v1]) M (Ta_readPerson v1 M) := by
  refine MC_of rfl (by decide +kernel) (fun ad => [(0, .ref (ad 6)), (1, .int v1)]) (fun _ => rfl) (fun _ => Nat.le_of_ble_eq_true rfl) (fun X ad => ?_)
  show G X ad mi_Ta_readPerson (φIM) 0 [(0, .ref (ad 6)), (1, .int v1)] [] M _
  unfold Ta_readPerson
  refine G_aload_n dX5_readPerson_0 0 rfl ?_
  refine G_iload_n dX5_readPerson_1 1 rfl ?_
  refine G_bipush (v := 97) dX5_readPerson_2 rfl ?_
  refine G_bipush (v := 97) dX5_readPerson_4 rfl ?_
  refine G_aload_n dX5_readPerson_6 0 rfl ?_
  refine G_getI hclX5 (by decide) rfl 4 (by decide) rfl wd_188 dX5_readPerson_7 ?_
  refine G_iadd dX5_readPerson_10 ?_
  refine G_iconst (v := 1) dX5_readPerson_11 rfl ?_
  refine G_isub dX5_readPerson_12 ?_
  refine G_bipush (v := 97) dX5_readPerson_13 rfl ?_
  refine G_callV_IM (m_Ta_readInto _ _ _ _ M) cal_Ta_readInto ⟨Nat.le_of_ble_eq_true rfl, Nat.le_of_ble_eq_true rfl⟩ wd_408 hclX5 (by decide) rfl [.int v1, .int 97, .int ((97 + (M 6 4)) - 1), .int 97] rfl rfl rfl (Nat.le_of_ble_eq_true rfl) dX5_readPerson_15 (fun r_1 M1 => ?_)
  exact G_zreturn rfl rfl dX5_readPerson_18 rfl

set_option maxRecDepth 100000 in
set_option maxHeartbeats 4000000 in
theorem m_Ta_skip (v1 : Int32) (M : Mem) : MC mi_Ta_skip (φIM) (fun ad => [.ref (ad 6), .int v1]) M (Ta_skip v1 M) := by
  refine MC_of rfl (by decide +kernel) (fun ad => [(0, .ref (ad 6)), (1, .int v1)]) (fun _ => rfl) (fun _ => Nat.le_of_ble_eq_true rfl) (fun X ad => ?_)
  show G X ad mi_Ta_skip (φIM) 0 [(0, .ref (ad 6)), (1, .int v1)] [] M _
  unfold Ta_skip
  refine G_aload_n dX5_skip_0 0 rfl ?_
  refine G_callV_I (m_Ta_here M) cal_Ta_here ⟨Nat.le_of_ble_eq_true rfl, Nat.le_of_ble_eq_true rfl⟩ wd_412 hclX5 (by decide) rfl [] rfl rfl rfl (Nat.le_of_ble_eq_true rfl) dX5_skip_1 (fun r_1 => ?_)
  refine G_iload_n dX5_skip_4 1 rfl ?_
  refine G_icmp_eq 10 dX5_skip_5 (by decide) (fun _ => ?_) (fun _ => ?_)
  refine G_aload_n dX5_skip_10 0 rfl ?_
  refine G_dup dX5_skip_11 rfl ?_
  refine G_getI hclX5 (by decide) rfl 3 (by decide) rfl wd_186 dX5_skip_12 ?_
  refine G_iconst (v := 1) dX5_skip_15 rfl ?_
  refine G_iadd dX5_skip_16 ?_
  refine G_put hclX5 (by decide) rfl 3 (by decide) rfl rfl (by decide +kernel) wd_186 dX5_skip_17 (fun M1 => ?_)
  refine G_iconst (v := 1) dX5_skip_20 rfl ?_
  exact G_zreturn rfl rfl dX5_skip_21 rfl
  refine G_iconst (v := 0) dX5_skip_8 rfl ?_
  exact G_zreturn rfl rfl dX5_skip_9 rfl

set_option maxRecDepth 100000 in
set_option maxHeartbeats 4000000 in
theorem m_Ta_readStrength (M : Mem) : MC mi_Ta_readStrength (φIM) (fun ad => [.ref (ad 6)]) M (Ta_readStrength M) := by
  refine MC_of rfl (by decide +kernel) (fun ad => [(0, .ref (ad 6))]) (fun _ => rfl) (fun _ => Nat.le_of_ble_eq_true rfl) (fun X ad => ?_)
  show G X ad mi_Ta_readStrength (φIM) 0 [(0, .ref (ad 6))] [] M _
  unfold Ta_readStrength
  refine G_aload_n dX5_readStrength_0 0 rfl ?_
  refine G_bipush (v := 42) dX5_readStrength_1 rfl ?_
  refine G_callV_IM (m_Ta_skip _ M) cal_Ta_skip ⟨Nat.le_of_ble_eq_true rfl, Nat.le_of_ble_eq_true rfl⟩ wd_417 hclX5 (by decide) rfl [.int 42] rfl rfl rfl (Nat.le_of_ble_eq_true rfl) dX5_readStrength_3 (fun r_1 M1 => ?_)
  refine G_if_eq 23 dX5_readStrength_6 (by decide) (fun _ => ?_) (fun _ => ?_)
  refine G_iconst (v := 1) dX5_readStrength_23 rfl ?_
  refine G_goto 28 dX5_readStrength_24 (by decide) ?_
  exact G_zreturn rfl rfl dX5_readStrength_28 rfl
  refine G_aload_n dX5_readStrength_9 0 rfl ?_
  refine G_iconst (v := 3) dX5_readStrength_10 rfl ?_
  refine G_bipush (v := 49) dX5_readStrength_11 rfl ?_
  refine G_bipush (v := 57) dX5_readStrength_13 rfl ?_
  refine G_bipush (v := 48) dX5_readStrength_15 rfl ?_
  refine G_callV_IM (m_Ta_readInto _ _ _ _ M1) cal_Ta_readInto ⟨Nat.le_of_ble_eq_true rfl, Nat.le_of_ble_eq_true rfl⟩ wd_408 hclX5 (by decide) rfl [.int 3, .int 49, .int 57, .int 48] rfl rfl rfl (Nat.le_of_ble_eq_true rfl) dX5_readStrength_17 (fun r_2 M2 => ?_)
  refine G_if_eq 27 dX5_readStrength_20 (by decide) (fun _ => ?_) (fun _ => ?_)
  refine G_iconst (v := 0) dX5_readStrength_27 rfl ?_
  exact G_zreturn rfl rfl dX5_readStrength_28 rfl
  refine G_iconst (v := 1) dX5_readStrength_23 rfl ?_
  refine G_goto 28 dX5_readStrength_24 (by decide) ?_
  exact G_zreturn rfl rfl dX5_readStrength_28 rfl

set_option maxRecDepth 100000 in
set_option maxHeartbeats 4000000 in
theorem w_Ta_readYear_L8 (X : Cx) (ad : Nat → Nat) (v1_1 : Int32) (v2_1 : Int32) (v3_2 : Int32) (kx : Int32 → Mem → Option (Int32 × Mem)) (hkx : ∀ (e4 : Int32) (Me : Mem), G X ad mi_Ta_readYear (φIM) 64 [(0, .ref (ad 6)), (1, .int v1_1), (2, .int v2_1), (3, .int v3_2), (4, .int e4)] [] Me (kx e4 Me)) : ∀ (n : Nat) (s : Int32 × Mem), G X ad mi_Ta_readYear (φIM) 8 [(0, .ref (ad 6)), (1, .int v1_1), (2, .int v2_1), (3, .int v3_2), (4, .int s.1)] [] s.2 (LOOP (fun aq sq => Ta_readYear_L8 v3_2 kx aq sq.1 sq.2) n s) := by
  refine LOOP_rule (fun (s : Int32 × Mem) o => G X ad mi_Ta_readYear (φIM) 8 [(0, .ref (ad 6)), (1, .int v1_1), (2, .int v2_1), (3, .int v3_2), (4, .int s.1)] [] s.2 o) (fun _ => G_none) (fun ag hag s => ?_)
  obtain ⟨v4_1, M1⟩ := s
  show G X ad mi_Ta_readYear (φIM) 8 [(0, .ref (ad 6)), (1, .int v1_1), (2, .int v2_1), (3, .int v3_2), (4, .int v4_1)] [] M1 (Ta_readYear_L8 v3_2 kx ag v4_1 M1)
  unfold Ta_readYear_L8
  refine G_aload_n dX5_readYear_8 0 rfl ?_
  refine G_getI hclX5 (by decide) rfl 3 (by decide) rfl wd_186 dX5_readYear_9 ?_
  refine G_iload_n dX5_readYear_12 3 rfl ?_
  refine G_isub dX5_readYear_13 ?_
  refine G_iconst (v := 3) dX5_readYear_14 rfl ?_
  refine G_icmp_ge 64 dX5_readYear_15 (by decide) (fun _ => ?_) (fun _ => ?_)
  refine G_sub [0, 1, 2, 3, 4] rfl ?_
  exact hkx v4_1 M1
  refine G_aload_n dX5_readYear_18 0 rfl ?_
  refine G_callV_I (m_Ta_here M1) cal_Ta_here ⟨Nat.le_of_ble_eq_true rfl, Nat.le_of_ble_eq_true rfl⟩ wd_412 hclX5 (by decide) rfl [] rfl rfl rfl (Nat.le_of_ble_eq_true rfl) dX5_readYear_19 (fun r_1 => ?_)
  refine G_bipush (v := 48) dX5_readYear_22 rfl ?_
  refine G_icmp_lt 64 dX5_readYear_24 (by decide) (fun _ => ?_) (fun _ => ?_)
  refine G_sub [0, 1, 2, 3, 4] rfl ?_
  exact hkx v4_1 M1
  refine G_aload_n dX5_readYear_27 0 rfl ?_
  refine G_callV_I (m_Ta_here M1) cal_Ta_here ⟨Nat.le_of_ble_eq_true rfl, Nat.le_of_ble_eq_true rfl⟩ wd_412 hclX5 (by decide) rfl [] rfl rfl rfl (Nat.le_of_ble_eq_true rfl) dX5_readYear_28 (fun r_2 => ?_)
  refine G_bipush (v := 57) dX5_readYear_31 rfl ?_
  refine G_icmp_gt 64 dX5_readYear_33 (by decide) (fun _ => ?_) (fun _ => ?_)
  refine G_sub [0, 1, 2, 3, 4] rfl ?_
  exact hkx v4_1 M1
  refine G_iload dX5_readYear_36 4 rfl ?_
  refine G_bipush (v := 10) dX5_readYear_38 rfl ?_
  refine G_imul dX5_readYear_40 ?_
  refine G_aload_n dX5_readYear_41 0 rfl ?_
  refine G_callV_I (m_Ta_here M1) cal_Ta_here ⟨Nat.le_of_ble_eq_true rfl, Nat.le_of_ble_eq_true rfl⟩ wd_412 hclX5 (by decide) rfl [] rfl rfl rfl (Nat.le_of_ble_eq_true rfl) dX5_readYear_42 (fun r_3 => ?_)
  refine G_iadd dX5_readYear_45 ?_
  refine G_bipush (v := 48) dX5_readYear_46 rfl ?_
  refine G_isub dX5_readYear_48 ?_
  refine G_nmI (fun v4_2 => ?_)
  refine G_istore dX5_readYear_49 (by decide) (L' := [(4, .int v4_2), (0, .ref (ad 6)), (1, .int v1_1), (2, .int v2_1), (3, .int v3_2)]) rfl ?_
  refine G_aload_n dX5_readYear_51 1 rfl ?_
  refine G_dup dX5_readYear_52 rfl ?_
  refine G_getI hclX5 (by decide) rfl 3 (by decide) rfl wd_186 dX5_readYear_53 ?_
  refine G_iconst (v := 1) dX5_readYear_56 rfl ?_
  refine G_iadd dX5_readYear_57 ?_
  refine G_put hclX5 (by decide) rfl 3 (by decide) rfl rfl (by decide +kernel) wd_186 dX5_readYear_58 (fun M2 => ?_)
  refine G_goto 8 dX5_readYear_61 (by decide) ?_
  refine G_sub [1, 2, 3, 4, 0] rfl ?_
  exact hag (v4_2, M2)

set_option maxRecDepth 100000 in
set_option maxHeartbeats 4000000 in
theorem m_Ta_readYear (v1 : Int32) (v2 : Int32) (M : Mem) : MC mi_Ta_readYear (φIM) (fun ad => [.ref (ad 6), .int v1, .int v2]) M (Ta_readYear v1 v2 M) := by
  refine MC_of rfl (by decide +kernel) (fun ad => [(0, .ref (ad 6)), (1, .int v1), (2, .int v2)]) (fun _ => rfl) (fun _ => Nat.le_of_ble_eq_true rfl) (fun X ad => ?_)
  show G X ad mi_Ta_readYear (φIM) 0 [(0, .ref (ad 6)), (1, .int v1), (2, .int v2)] [] M _
  unfold Ta_readYear
  refine G_aload_n dX5_readYear_0 0 rfl ?_
  refine G_getI hclX5 (by decide) rfl 3 (by decide) rfl wd_186 dX5_readYear_1 ?_
  refine G_nmI (fun v3_1 => ?_)
  refine G_istore_n 3 rfl dX5_readYear_4 (by decide) (L' := [(3, .int v3_1), (0, .ref (ad 6)), (1, .int v1), (2, .int v2)]) rfl ?_
  refine G_iconst (v := 0) dX5_readYear_5 rfl ?_
  refine G_istore dX5_readYear_6 (by decide) (L' := [(4, .int 0), (3, .int v3_1), (0, .ref (ad 6)), (1, .int v1), (2, .int v2)]) rfl ?_
  refine G_sub [2, 3, 4, 1, 0] rfl ?_
  refine w_Ta_readYear_L8 X ad v1 v2 v3_1 _ (fun v4_3 M3 => ?_) _ _
  refine G_aload_n dX5_readYear_64 0 rfl ?_
  refine G_getI hclX5 (by decide) rfl 3 (by decide) rfl wd_186 dX5_readYear_65 ?_
  refine G_iload_n dX5_readYear_68 3 rfl ?_
  refine G_icmp_ne 74 dX5_readYear_69 (by decide) (fun _ => ?_) (fun _ => ?_)
  refine G_iconst (v := 0) dX5_readYear_72 rfl ?_
  exact G_zreturn rfl rfl dX5_readYear_73 rfl
  refine G_iload dX5_readYear_74 4 rfl ?_
  refine G_bipush (v := 100) dX5_readYear_76 rfl ?_
  refine G_icmp_gt 87 dX5_readYear_78 (by decide) (fun _ => ?_) (fun _ => ?_)
  refine G_aload_n dX5_readYear_87 0 rfl ?_
  refine G_iload_n dX5_readYear_88 3 rfl ?_
  refine G_put hclX5 (by decide) rfl 3 (by decide) rfl rfl (by decide +kernel) wd_186 dX5_readYear_89 (fun M4 => ?_)
  refine G_iconst (v := 0) dX5_readYear_92 rfl ?_
  exact G_zreturn rfl rfl dX5_readYear_93 rfl
  refine G_iload dX5_readYear_81 4 rfl ?_
  refine G_iload_n dX5_readYear_83 2 rfl ?_
  refine G_icmp_gt 94 dX5_readYear_84 (by decide) (fun _ => ?_) (fun _ => ?_)
  refine G_aload_n dX5_readYear_94 0 rfl ?_
  refine G_getR hclX5 (by decide) rfl 1 (by decide) rfl wd_182 dX5_readYear_95 ?_
  refine G_iload_n dX5_readYear_98 1 rfl ?_
  refine G_iload dX5_readYear_99 4 rfl ?_
  refine G_callVN_V (m_Td_draft 8 isT_8 _ _ M3) cal_Td_draft ⟨Nat.le_of_ble_eq_true rfl, Nat.le_of_ble_eq_true rfl⟩ wn_399 hclX6 (by decide) rfl [.int v1, .int v4_3] rfl rfl rfl (Nat.le_of_ble_eq_true rfl) dX5_readYear_101 (fun M5 => ?_)
  refine G_iconst (v := 1) dX5_readYear_104 rfl ?_
  exact G_zreturn rfl rfl dX5_readYear_105 rfl
  refine G_aload_n dX5_readYear_87 0 rfl ?_
  refine G_iload_n dX5_readYear_88 3 rfl ?_
  refine G_put hclX5 (by decide) rfl 3 (by decide) rfl rfl (by decide +kernel) wd_186 dX5_readYear_89 (fun M6 => ?_)
  refine G_iconst (v := 0) dX5_readYear_92 rfl ?_
  exact G_zreturn rfl rfl dX5_readYear_93 rfl

set_option maxRecDepth 100000 in
set_option maxHeartbeats 4000000 in
theorem m_Ta_readYears (M : Mem) : MC mi_Ta_readYears (φIM) (fun ad => [.ref (ad 6)]) M (Ta_readYears M) := by
  refine MC_of rfl (by decide +kernel) (fun ad => [(0, .ref (ad 6))]) (fun _ => rfl) (fun _ => Nat.le_of_ble_eq_true rfl) (fun X ad => ?_)
  show G X ad mi_Ta_readYears (φIM) 0 [(0, .ref (ad 6))] [] M _
  unfold Ta_readYears
  refine G_aload_n dX5_readYears_0 0 rfl ?_
  refine G_bipush (v := 64) dX5_readYears_1 rfl ?_
  refine G_callV_IM (m_Ta_skip _ M) cal_Ta_skip ⟨Nat.le_of_ble_eq_true rfl, Nat.le_of_ble_eq_true rfl⟩ wd_417 hclX5 (by decide) rfl [.int 64] rfl rfl rfl (Nat.le_of_ble_eq_true rfl) dX5_readYears_3 (fun r_1 M1 => ?_)
  refine G_if_eq 40 dX5_readYears_6 (by decide) (fun _ => ?_) (fun _ => ?_)
  refine G_iconst (v := 1) dX5_readYears_40 rfl ?_
  refine G_goto 45 dX5_readYears_41 (by decide) ?_
  exact G_zreturn rfl rfl dX5_readYears_45 rfl
  refine G_aload_n dX5_readYears_9 0 rfl ?_
  refine G_iconst (v := 4) dX5_readYears_10 rfl ?_
  refine G_iconst (v := -1) dX5_readYears_11 rfl ?_
  refine G_callV_IM (m_Ta_readYear _ _ M1) cal_Ta_readYear ⟨Nat.le_of_ble_eq_true rfl, Nat.le_of_ble_eq_true rfl⟩ wd_438 hclX5 (by decide) rfl [.int 4, .int (-1)] rfl rfl rfl (Nat.le_of_ble_eq_true rfl) dX5_readYears_12 (fun r_2 M2 => ?_)
  refine G_if_eq 44 dX5_readYears_15 (by decide) (fun _ => ?_) (fun _ => ?_)
  refine G_iconst (v := 0) dX5_readYears_44 rfl ?_
  exact G_zreturn rfl rfl dX5_readYears_45 rfl
  refine G_aload_n dX5_readYears_18 0 rfl ?_
  refine G_bipush (v := 45) dX5_readYears_19 rfl ?_
  refine G_callV_IM (m_Ta_skip _ M2) cal_Ta_skip ⟨Nat.le_of_ble_eq_true rfl, Nat.le_of_ble_eq_true rfl⟩ wd_417 hclX5 (by decide) rfl [.int 45] rfl rfl rfl (Nat.le_of_ble_eq_true rfl) dX5_readYears_21 (fun r_3 M3 => ?_)
  refine G_if_eq 44 dX5_readYears_24 (by decide) (fun _ => ?_) (fun _ => ?_)
  refine G_iconst (v := 0) dX5_readYears_44 rfl ?_
  exact G_zreturn rfl rfl dX5_readYears_45 rfl
  refine G_aload_n dX5_readYears_27 0 rfl ?_
  refine G_iconst (v := 5) dX5_readYears_28 rfl ?_
  refine G_aload_n dX5_readYears_29 0 rfl ?_
  refine G_iconst (v := 4) dX5_readYears_30 rfl ?_
  refine G_callV_I (m_Ta_drafted _ M3) cal_Ta_drafted ⟨Nat.le_of_ble_eq_true rfl, Nat.le_of_ble_eq_true rfl⟩ wd_421 hclX5 (by decide) rfl [.int 4] rfl rfl rfl (Nat.le_of_ble_eq_true rfl) dX5_readYears_31 (fun r_4 => ?_)
  refine G_callV_IM (m_Ta_readYear _ _ M3) cal_Ta_readYear ⟨Nat.le_of_ble_eq_true rfl, Nat.le_of_ble_eq_true rfl⟩ wd_438 hclX5 (by decide) rfl [.int 5, .int r_4] rfl rfl rfl (Nat.le_of_ble_eq_true rfl) dX5_readYears_34 (fun r_5 M4 => ?_)
  refine G_if_eq 44 dX5_readYears_37 (by decide) (fun _ => ?_) (fun _ => ?_)
  refine G_iconst (v := 0) dX5_readYears_44 rfl ?_
  exact G_zreturn rfl rfl dX5_readYears_45 rfl
  refine G_iconst (v := 1) dX5_readYears_40 rfl ?_
  refine G_goto 45 dX5_readYears_41 (by decide) ?_
  exact G_zreturn rfl rfl dX5_readYears_45 rfl

set_option maxRecDepth 100000 in
set_option maxHeartbeats 4000000 in
theorem m_Ta_readTie (M : Mem) : MC mi_Ta_readTie (φIM) (fun ad => [.ref (ad 6)]) M (Ta_readTie M) := by
  refine MC_of rfl (by decide +kernel) (fun ad => [(0, .ref (ad 6))]) (fun _ => rfl) (fun _ => Nat.le_of_ble_eq_true rfl) (fun X ad => ?_)
  show G X ad mi_Ta_readTie (φIM) 0 [(0, .ref (ad 6))] [] M _
  unfold Ta_readTie
  refine G_aload_n dX5_readTie_0 0 rfl ?_
  refine G_getR hclX5 (by decide) rfl 1 (by decide) rfl wd_182 dX5_readTie_1 ?_
  refine G_iconst (v := 3) dX5_readTie_4 rfl ?_
  refine G_iconst (v := 1) dX5_readTie_5 rfl ?_
  refine G_callVN_V (m_Td_draft 8 isT_8 _ _ M) cal_Td_draft ⟨Nat.le_of_ble_eq_true rfl, Nat.le_of_ble_eq_true rfl⟩ wn_399 hclX6 (by decide) rfl [.int 3, .int 1] rfl rfl rfl (Nat.le_of_ble_eq_true rfl) dX5_readTie_6 (fun M1 => ?_)
  refine G_aload_n dX5_readTie_9 0 rfl ?_
  refine G_getR hclX5 (by decide) rfl 1 (by decide) rfl wd_182 dX5_readTie_10 ?_
  refine G_iconst (v := 4) dX5_readTie_13 rfl ?_
  refine G_iconst (v := 0) dX5_readTie_14 rfl ?_
  refine G_callVN_V (m_Td_draft 8 isT_8 _ _ M1) cal_Td_draft ⟨Nat.le_of_ble_eq_true rfl, Nat.le_of_ble_eq_true rfl⟩ wn_399 hclX6 (by decide) rfl [.int 4, .int 0] rfl rfl rfl (Nat.le_of_ble_eq_true rfl) dX5_readTie_15 (fun M2 => ?_)
  refine G_aload_n dX5_readTie_18 0 rfl ?_
  refine G_getR hclX5 (by decide) rfl 1 (by decide) rfl wd_182 dX5_readTie_19 ?_
  refine G_iconst (v := 5) dX5_readTie_22 rfl ?_
  refine G_bipush (v := 100) dX5_readTie_23 rfl ?_
  refine G_callVN_V (m_Td_draft 8 isT_8 _ _ M2) cal_Td_draft ⟨Nat.le_of_ble_eq_true rfl, Nat.le_of_ble_eq_true rfl⟩ wn_399 hclX6 (by decide) rfl [.int 5, .int 100] rfl rfl rfl (Nat.le_of_ble_eq_true rfl) dX5_readTie_25 (fun M3 => ?_)
  refine G_aload_n dX5_readTie_28 0 rfl ?_
  refine G_iconst (v := 0) dX5_readTie_29 rfl ?_
  refine G_callV_IM (m_Ta_readPerson _ M3) cal_Ta_readPerson ⟨Nat.le_of_ble_eq_true rfl, Nat.le_of_ble_eq_true rfl⟩ wd_404 hclX5 (by decide) rfl [.int 0] rfl rfl rfl (Nat.le_of_ble_eq_true rfl) dX5_readTie_30 (fun r_1 M4 => ?_)
  refine G_if_eq 100 dX5_readTie_33 (by decide) (fun _ => ?_) (fun _ => ?_)
  refine G_iconst (v := 0) dX5_readTie_100 rfl ?_
  exact G_zreturn rfl rfl dX5_readTie_101 rfl
  refine G_aload_n dX5_readTie_36 0 rfl ?_
  refine G_bipush (v := 62) dX5_readTie_37 rfl ?_
  refine G_callV_IM (m_Ta_skip _ M4) cal_Ta_skip ⟨Nat.le_of_ble_eq_true rfl, Nat.le_of_ble_eq_true rfl⟩ wd_417 hclX5 (by decide) rfl [.int 62] rfl rfl rfl (Nat.le_of_ble_eq_true rfl) dX5_readTie_39 (fun r_2 M5 => ?_)
  refine G_if_eq 100 dX5_readTie_42 (by decide) (fun _ => ?_) (fun _ => ?_)
  refine G_iconst (v := 0) dX5_readTie_100 rfl ?_
  exact G_zreturn rfl rfl dX5_readTie_101 rfl
  refine G_aload_n dX5_readTie_45 0 rfl ?_
  refine G_callV_I (m_Ta_here M5) cal_Ta_here ⟨Nat.le_of_ble_eq_true rfl, Nat.le_of_ble_eq_true rfl⟩ wd_412 hclX5 (by decide) rfl [] rfl rfl rfl (Nat.le_of_ble_eq_true rfl) dX5_readTie_46 (fun r_3 => ?_)
  refine G_bipush (v := 97) dX5_readTie_49 rfl ?_
  refine G_aload_n dX5_readTie_51 0 rfl ?_
  refine G_iconst (v := 0) dX5_readTie_52 rfl ?_
  refine G_callV_I (m_Ta_drafted _ M5) cal_Ta_drafted ⟨Nat.le_of_ble_eq_true rfl, Nat.le_of_ble_eq_true rfl⟩ wd_421 hclX5 (by decide) rfl [.int 0] rfl rfl rfl (Nat.le_of_ble_eq_true rfl) dX5_readTie_53 (fun r_4 => ?_)
  refine G_iadd dX5_readTie_56 ?_
  refine G_icmp_eq 100 dX5_readTie_57 (by decide) (fun _ => ?_) (fun _ => ?_)
  refine G_iconst (v := 0) dX5_readTie_100 rfl ?_
  exact G_zreturn rfl rfl dX5_readTie_101 rfl
  refine G_aload_n dX5_readTie_60 0 rfl ?_
  refine G_iconst (v := 1) dX5_readTie_61 rfl ?_
  refine G_callV_IM (m_Ta_readPerson _ M5) cal_Ta_readPerson ⟨Nat.le_of_ble_eq_true rfl, Nat.le_of_ble_eq_true rfl⟩ wd_404 hclX5 (by decide) rfl [.int 1] rfl rfl rfl (Nat.le_of_ble_eq_true rfl) dX5_readTie_62 (fun r_5 M6 => ?_)
  refine G_if_eq 100 dX5_readTie_65 (by decide) (fun _ => ?_) (fun _ => ?_)
  refine G_iconst (v := 0) dX5_readTie_100 rfl ?_
  exact G_zreturn rfl rfl dX5_readTie_101 rfl
  refine G_aload_n dX5_readTie_68 0 rfl ?_
  refine G_iconst (v := 2) dX5_readTie_69 rfl ?_
  refine G_bipush (v := 48) dX5_readTie_70 rfl ?_
  refine G_bipush (v := 50) dX5_readTie_72 rfl ?_
  refine G_bipush (v := 48) dX5_readTie_74 rfl ?_
  refine G_callV_IM (m_Ta_readInto _ _ _ _ M6) cal_Ta_readInto ⟨Nat.le_of_ble_eq_true rfl, Nat.le_of_ble_eq_true rfl⟩ wd_408 hclX5 (by decide) rfl [.int 2, .int 48, .int 50, .int 48] rfl rfl rfl (Nat.le_of_ble_eq_true rfl) dX5_readTie_76 (fun r_6 M7 => ?_)
  refine G_if_eq 100 dX5_readTie_79 (by decide) (fun _ => ?_) (fun _ => ?_)
  refine G_iconst (v := 0) dX5_readTie_100 rfl ?_
  exact G_zreturn rfl rfl dX5_readTie_101 rfl
  refine G_aload_n dX5_readTie_82 0 rfl ?_
  refine G_callV_IM (m_Ta_readStrength M7) cal_Ta_readStrength ⟨Nat.le_of_ble_eq_true rfl, Nat.le_of_ble_eq_true rfl⟩ wd_430 hclX5 (by decide) rfl [] rfl rfl rfl (Nat.le_of_ble_eq_true rfl) dX5_readTie_83 (fun r_7 M8 => ?_)
  refine G_if_eq 100 dX5_readTie_86 (by decide) (fun _ => ?_) (fun _ => ?_)
  refine G_iconst (v := 0) dX5_readTie_100 rfl ?_
  exact G_zreturn rfl rfl dX5_readTie_101 rfl
  refine G_aload_n dX5_readTie_89 0 rfl ?_
  refine G_callV_IM (m_Ta_readYears M8) cal_Ta_readYears ⟨Nat.le_of_ble_eq_true rfl, Nat.le_of_ble_eq_true rfl⟩ wd_434 hclX5 (by decide) rfl [] rfl rfl rfl (Nat.le_of_ble_eq_true rfl) dX5_readTie_90 (fun r_8 M9 => ?_)
  refine G_if_eq 100 dX5_readTie_93 (by decide) (fun _ => ?_) (fun _ => ?_)
  refine G_iconst (v := 0) dX5_readTie_100 rfl ?_
  exact G_zreturn rfl rfl dX5_readTie_101 rfl
  refine G_iconst (v := 1) dX5_readTie_96 rfl ?_
  refine G_goto 101 dX5_readTie_97 (by decide) ?_
  exact G_zreturn rfl rfl dX5_readTie_101 rfl

set_option maxRecDepth 100000 in
set_option maxHeartbeats 4000000 in
theorem m_Td_endDraft (k0 : Nat) (hk0 : isT k0) (M : Mem) : MC mi_Td_endDraft (φV) (fun ad => [.ref (ad k0)]) M (Td_endDraft k0 M) := by
  refine MC_of rfl (by decide +kernel) (fun ad => [(0, .ref (ad k0))]) (fun _ => rfl) (fun _ => Nat.le_of_ble_eq_true rfl) (fun X ad => ?_)
  show G X ad mi_Td_endDraft (φV) 0 [(0, .ref (ad k0))] [] M _
  unfold Td_endDraft
  refine G_aload_n dX6_endDraft_0 0 rfl ?_
  refine G_getI hclX6 (Nat.lt_of_succ_lt hk0.1) hk0.2.1 1 (by decide) rfl wd_165 dX6_endDraft_1 ?_
  refine G_bipush (v := 60) dX6_endDraft_4 rfl ?_
  refine G_icmp_ge 19 dX6_endDraft_6 (by decide) (fun _ => ?_) (fun _ => ?_)
  exact G_return rfl rfl dX6_endDraft_19 rfl
  refine G_aload_n dX6_endDraft_9 0 rfl ?_
  refine G_dup dX6_endDraft_10 rfl ?_
  refine G_getI hclX6 (Nat.lt_of_succ_lt hk0.1) hk0.2.1 1 (by decide) rfl wd_165 dX6_endDraft_11 ?_
  refine G_iconst (v := 1) dX6_endDraft_14 rfl ?_
  refine G_iadd dX6_endDraft_15 ?_
  refine G_put hclX6 (Nat.lt_of_succ_lt hk0.1) hk0.2.1 1 (by decide) rfl rfl (by decide +kernel) wd_165 dX6_endDraft_16 (fun M1 => ?_)
  exact G_return rfl rfl dX6_endDraft_19 rfl

set_option maxRecDepth 100000 in
set_option maxHeartbeats 4000000 in
theorem w_Ta_readAll_L21 (X : Cx) (ad : Nat → Nat) (kx : Mem → Option (Int32 × Mem)) (hkx : ∀ (Me : Mem), G X ad mi_Ta_readAll (φIM) 60 [(0, .ref (ad 6))] [] Me (kx Me)) : ∀ (n : Nat) (s : Int32 × Int32 × Mem), G X ad mi_Ta_readAll (φIM) 21 [(0, .ref (ad 6)), (2, .int s.1), (3, .int s.2.1)] [] s.2.2 (LOOP (fun aq sq => Ta_readAll_L21 kx aq sq.1 sq.2.1 sq.2.2) n s) := by
  refine LOOP_rule (fun (s : Int32 × Int32 × Mem) o => G X ad mi_Ta_readAll (φIM) 21 [(0, .ref (ad 6)), (2, .int s.1), (3, .int s.2.1)] [] s.2.2 o) (fun _ => G_none) (fun ag hag s => ?_)
  obtain ⟨v2_1, v3_1, M4⟩ := s
  show G X ad mi_Ta_readAll (φIM) 21 [(0, .ref (ad 6)), (2, .int v2_1), (3, .int v3_1)] [] M4 (Ta_readAll_L21 kx ag v2_1 v3_1 M4)
  unfold Ta_readAll_L21
  refine G_iload_n dX5_readAll_21 2 rfl ?_
  refine G_bipush (v := 60) dX5_readAll_22 rfl ?_
  refine G_icmp_gt 60 dX5_readAll_24 (by decide) (fun _ => ?_) (fun _ => ?_)
  refine G_sub [0] rfl ?_
  exact hkx M4
  refine G_iload_n dX5_readAll_27 1 rfl ?_
  refine G_if_eq 60 dX5_readAll_28 (by decide) (fun _ => ?_) (fun _ => ?_)
  refine G_sub [0] rfl ?_
  exact hkx M4
  refine G_aload_n dX5_readAll_31 0 rfl ?_
  refine G_callV_IM (m_Ta_readTie M4) cal_Ta_readTie ⟨Nat.le_of_ble_eq_true rfl, Nat.le_of_ble_eq_true rfl⟩ wd_395 hclX5 (by decide) rfl [] rfl rfl rfl (Nat.le_of_ble_eq_true rfl) dX5_readAll_32 (fun r_1 M5 => ?_)
  refine G_if_ne 40 dX5_readAll_35 (by decide) (fun _ => ?_) (fun _ => ?_)
  refine G_iconst (v := 0) dX5_readAll_38 rfl ?_
  exact G_zreturn rfl rfl dX5_readAll_39 rfl
  refine G_aload_n dX5_readAll_40 0 rfl ?_
  refine G_getR hclX5 (by decide) rfl 1 (by decide) rfl wd_182 dX5_readAll_41 ?_
  refine G_callVN_V (m_Td_endDraft 8 isT_8 M5) cal_Td_endDraft ⟨Nat.le_of_ble_eq_true rfl, Nat.le_of_ble_eq_true rfl⟩ wn_442 hclX6 (by decide) rfl [] rfl rfl rfl (Nat.le_of_ble_eq_true rfl) dX5_readAll_44 (fun M6 => ?_)
  refine G_aload_n dX5_readAll_47 0 rfl ?_
  refine G_bipush (v := 59) dX5_readAll_48 rfl ?_
  refine G_callV_IM (m_Ta_skip _ M6) cal_Ta_skip ⟨Nat.le_of_ble_eq_true rfl, Nat.le_of_ble_eq_true rfl⟩ wd_417 hclX5 (by decide) rfl [.int 59] rfl rfl rfl (Nat.le_of_ble_eq_true rfl) dX5_readAll_50 (fun r_2 M7 => ?_)
  refine G_istore_n 2 rfl dX5_readAll_53 (by decide) (L' := [(2, .int r_2), (0, .ref (ad 6)), (3, .int v3_1)]) rfl ?_
  refine G_iinc (v3_1 + 1) dX5_readAll_54 2 rfl rfl (by decide) (L' := [(3, .int (v3_1 + 1)), (2, .int r_2), (0, .ref (ad 6))]) rfl ?_
  refine G_goto 21 dX5_readAll_57 (by decide) ?_
  refine G_sub [2, 1, 0] rfl ?_
  exact hag (r_2, v3_1 + 1, M7)

set_option maxRecDepth 100000 in
set_option maxHeartbeats 4000000 in
theorem m_Ta_readAll (v1 : Int32) (M : Mem) : MC mi_Ta_readAll (φIM) (fun ad => [.ref (ad 6), .int v1]) M (Ta_readAll v1 M) := by
  refine MC_of rfl (by decide +kernel) (fun ad => [(0, .ref (ad 6)), (1, .int v1)]) (fun _ => rfl) (fun _ => Nat.le_of_ble_eq_true rfl) (fun X ad => ?_)
  show G X ad mi_Ta_readAll (φIM) 0 [(0, .ref (ad 6)), (1, .int v1)] [] M _
  unfold Ta_readAll
  refine G_aload_n dX5_readAll_0 0 rfl ?_
  refine G_iload_n dX5_readAll_1 1 rfl ?_
  refine G_put hclX5 (by decide) rfl 4 (by decide) rfl rfl (by decide +kernel) wd_188 dX5_readAll_2 (fun M1 => ?_)
  refine G_aload_n dX5_readAll_5 0 rfl ?_
  refine G_iconst (v := 0) dX5_readAll_6 rfl ?_
  refine G_put hclX5 (by decide) rfl 3 (by decide) rfl rfl (by decide +kernel) wd_186 dX5_readAll_7 (fun M2 => ?_)
  refine G_aload_n dX5_readAll_10 0 rfl ?_
  refine G_getR hclX5 (by decide) rfl 1 (by decide) rfl wd_182 dX5_readAll_11 ?_
  refine G_callVN_V (m_Td_drain 8 isT_8 M2) cal_Td_drain ⟨Nat.le_of_ble_eq_true rfl, Nat.le_of_ble_eq_true rfl⟩ wn_394 hclX6 (by decide) rfl [] rfl rfl rfl (Nat.le_of_ble_eq_true rfl) dX5_readAll_14 (fun M3 => ?_)
  refine G_iconst (v := 1) dX5_readAll_17 rfl ?_
  refine G_istore_n 2 rfl dX5_readAll_18 (by decide) (L' := [(2, .int 1), (0, .ref (ad 6)), (1, .int v1)]) rfl ?_
  refine G_iconst (v := 0) dX5_readAll_19 rfl ?_
  refine G_istore_n 3 rfl dX5_readAll_20 (by decide) (L' := [(3, .int 0), (2, .int 1), (0, .ref (ad 6)), (1, .int v1)]) rfl ?_
  refine G_sub [2, 1, 0] rfl ?_
  refine w_Ta_readAll_L21 X ad _ (fun M8 => ?_) _ _
  refine G_aload_n dX5_readAll_60 0 rfl ?_
  refine G_getI hclX5 (by decide) rfl 3 (by decide) rfl wd_186 dX5_readAll_61 ?_
  refine G_aload_n dX5_readAll_64 0 rfl ?_
  refine G_getI hclX5 (by decide) rfl 2 (by decide) rfl wd_184 dX5_readAll_65 ?_
  refine G_icmp_ne 75 dX5_readAll_68 (by decide) (fun _ => ?_) (fun _ => ?_)
  refine G_iconst (v := 1) dX5_readAll_71 rfl ?_
  refine G_goto 76 dX5_readAll_72 (by decide) ?_
  exact G_zreturn rfl rfl dX5_readAll_76 rfl
  refine G_iconst (v := 0) dX5_readAll_75 rfl ?_
  exact G_zreturn rfl rfl dX5_readAll_76 rfl

set_option maxRecDepth 100000 in
set_option maxHeartbeats 4000000 in
theorem w_Td_takeAll_L12 (X : Cx) (ad : Nat → Nat) (v2_2 : Int32) (kx : Mem → Option Mem) (hkx : ∀ (Me : Mem), G X ad mi_Td_takeAll (φV) 35 [(0, .ref (ad 4)), (1, .ref (ad 8)), (2, .int v2_2)] [] Me (kx Me)) : ∀ (n : Nat) (s : Int32 × Mem), G X ad mi_Td_takeAll (φV) 12 [(0, .ref (ad 4)), (1, .ref (ad 8)), (2, .int v2_2), (3, .int s.1)] [] s.2 (LOOP (fun aq sq => Td_takeAll_L12 v2_2 kx aq sq.1 sq.2) n s) := by
  refine LOOP_rule (fun (s : Int32 × Mem) o => G X ad mi_Td_takeAll (φV) 12 [(0, .ref (ad 4)), (1, .ref (ad 8)), (2, .int v2_2), (3, .int s.1)] [] s.2 o) (fun _ => G_none) (fun ag hag s => ?_)
  obtain ⟨v3_1, M2⟩ := s
  show G X ad mi_Td_takeAll (φV) 12 [(0, .ref (ad 4)), (1, .ref (ad 8)), (2, .int v2_2), (3, .int v3_1)] [] M2 (Td_takeAll_L12 v2_2 kx ag v3_1 M2)
  unfold Td_takeAll_L12
  refine G_iload_n dX6_takeAll_12 3 rfl ?_
  refine G_bipush (v := 6) dX6_takeAll_13 rfl ?_
  refine G_icmp_ge 35 dX6_takeAll_15 (by decide) (fun _ => ?_) (fun _ => ?_)
  refine G_sub [0, 1, 2] rfl ?_
  exact hkx M2
  refine G_aload_n dX6_takeAll_18 0 rfl ?_
  refine G_iload_n dX6_takeAll_19 3 rfl ?_
  refine G_aload_n dX6_takeAll_20 1 rfl ?_
  refine G_iload_n dX6_takeAll_21 2 rfl ?_
  refine G_iload_n dX6_takeAll_22 3 rfl ?_
  refine G_callV_I (m_Td_field 8 isT_8 _ _ M2) cal_Td_field ⟨Nat.le_of_ble_eq_true rfl, Nat.le_of_ble_eq_true rfl⟩ wd_450 hclX6 (by decide) rfl [.int v2_2, .int v3_1] rfl rfl rfl (Nat.le_of_ble_eq_true rfl) dX6_takeAll_23 (fun r_1 => ?_)
  refine G_callV_V (m_Td_draft 4 isT_4 _ _ M2) cal_Td_draft ⟨Nat.le_of_ble_eq_true rfl, Nat.le_of_ble_eq_true rfl⟩ wd_451 hclX6 (by decide) rfl [.int v3_1, .int r_1] rfl rfl rfl (Nat.le_of_ble_eq_true rfl) dX6_takeAll_26 (fun M3 => ?_)
  refine G_iinc (v3_1 + 1) dX6_takeAll_29 3 rfl rfl (by decide) (L' := [(3, .int (v3_1 + 1)), (0, .ref (ad 4)), (1, .ref (ad 8)), (2, .int v2_2)]) rfl ?_
  refine G_goto 12 dX6_takeAll_32 (by decide) ?_
  refine G_sub [1, 2, 3, 0] rfl ?_
  exact hag (v3_1 + 1, M3)

set_option maxRecDepth 100000 in
set_option maxHeartbeats 4000000 in
theorem w_Td_takeAll_L2 (X : Cx) (ad : Nat → Nat) (kx : Mem → Option Mem) (hkx : ∀ (Me : Mem), G X ad mi_Td_takeAll (φV) 45 [] [] Me (kx Me)) : ∀ (n : Nat) (s : Int32 × Mem), G X ad mi_Td_takeAll (φV) 2 [(0, .ref (ad 4)), (1, .ref (ad 8)), (2, .int s.1)] [] s.2 (LOOP (fun aq sq => Td_takeAll_L2 kx aq sq.1 sq.2) n s) := by
  refine LOOP_rule (fun (s : Int32 × Mem) o => G X ad mi_Td_takeAll (φV) 2 [(0, .ref (ad 4)), (1, .ref (ad 8)), (2, .int s.1)] [] s.2 o) (fun _ => G_none) (fun ag hag s => ?_)
  obtain ⟨v2_1, M1⟩ := s
  show G X ad mi_Td_takeAll (φV) 2 [(0, .ref (ad 4)), (1, .ref (ad 8)), (2, .int v2_1)] [] M1 (Td_takeAll_L2 kx ag v2_1 M1)
  unfold Td_takeAll_L2
  refine G_iload_n dX6_takeAll_2 2 rfl ?_
  refine G_aload_n dX6_takeAll_3 1 rfl ?_
  refine G_getI hclX6 (by decide) rfl 1 (by decide) rfl wd_165 dX6_takeAll_4 ?_
  refine G_icmp_ge 45 dX6_takeAll_7 (by decide) (fun _ => ?_) (fun _ => ?_)
  refine G_sub [] rfl ?_
  exact hkx M1
  refine G_iconst (v := 0) dX6_takeAll_10 rfl ?_
  refine G_istore_n 3 rfl dX6_takeAll_11 (by decide) (L' := [(3, .int 0), (0, .ref (ad 4)), (1, .ref (ad 8)), (2, .int v2_1)]) rfl ?_
  refine G_sub [1, 2, 3, 0] rfl ?_
  refine w_Td_takeAll_L12 X ad v2_1 _ (fun M4 => ?_) _ _
  refine G_aload_n dX6_takeAll_35 0 rfl ?_
  refine G_callV_V (m_Td_endDraft 4 isT_4 M4) cal_Td_endDraft ⟨Nat.le_of_ble_eq_true rfl, Nat.le_of_ble_eq_true rfl⟩ wd_452 hclX6 (by decide) rfl [] rfl rfl rfl (Nat.le_of_ble_eq_true rfl) dX6_takeAll_36 (fun M5 => ?_)
  refine G_iinc (v2_1 + 1) dX6_takeAll_39 2 rfl rfl (by decide) (L' := [(2, .int (v2_1 + 1)), (0, .ref (ad 4)), (1, .ref (ad 8))]) rfl ?_
  refine G_goto 2 dX6_takeAll_42 (by decide) ?_
  refine G_sub [1, 2, 0] rfl ?_
  exact hag (v2_1 + 1, M5)

set_option maxRecDepth 100000 in
set_option maxHeartbeats 4000000 in
theorem m_Td_takeAll (M : Mem) : MC mi_Td_takeAll (φV) (fun ad => [.ref (ad 4), .ref (ad 8)]) M (Td_takeAll M) := by
  refine MC_of rfl (by decide +kernel) (fun ad => [(0, .ref (ad 4)), (1, .ref (ad 8))]) (fun _ => rfl) (fun _ => Nat.le_of_ble_eq_true rfl) (fun X ad => ?_)
  show G X ad mi_Td_takeAll (φV) 0 [(0, .ref (ad 4)), (1, .ref (ad 8))] [] M _
  unfold Td_takeAll
  refine G_iconst (v := 0) dX6_takeAll_0 rfl ?_
  refine G_istore_n 2 rfl dX6_takeAll_1 (by decide) (L' := [(2, .int 0), (0, .ref (ad 4)), (1, .ref (ad 8))]) rfl ?_
  refine G_sub [1, 2, 0] rfl ?_
  refine w_Td_takeAll_L2 X ad _ (fun M6 => ?_) _ _
  exact G_return rfl rfl dX6_takeAll_45 rfl

set_option maxRecDepth 100000 in
set_option maxHeartbeats 4000000 in
theorem m_SP_ties (M : Mem) : MC mi_SP_ties (φIM) (fun ad => [.ref (ad 0)]) M (SP_ties M) := by
  refine MC_of rfl (by decide +kernel) (fun ad => [(0, .ref (ad 0))]) (fun _ => rfl) (fun _ => Nat.le_of_ble_eq_true rfl) (fun X ad => ?_)
  show G X ad mi_SP_ties (φIM) 0 [(0, .ref (ad 0))] [] M _
  unfold SP_ties
  refine G_aload_n dX9_ties_0 0 rfl ?_
  refine G_getR hclX9 (by decide) rfl 2 (by decide) rfl wd_309 dX9_ties_1 ?_
  refine G_aload_n dX9_ties_4 0 rfl ?_
  refine G_getR hclX9 (by decide) rfl 0 (by decide) rfl wd_307 dX9_ties_5 ?_
  refine G_getIN hclX7 (by decide) rfl 2 (by decide) rfl wn_147 dX9_ties_8 ?_
  refine G_callVN_IM (m_Ta_readAll _ M) cal_Ta_readAll ⟨Nat.le_of_ble_eq_true rfl, Nat.le_of_ble_eq_true rfl⟩ wn_390 hclX5 (by decide) rfl [.int (M 1 2)] rfl rfl rfl (Nat.le_of_ble_eq_true rfl) dX9_ties_11 (fun r_1 M1 => ?_)
  refine G_istore_n 1 rfl dX9_ties_14 (by decide) (L' := [(1, .int r_1), (0, .ref (ad 0))]) rfl ?_
  refine G_aload_n dX9_ties_15 1 rfl ?_
  refine G_getR hclX9 (by decide) rfl 2 (by decide) rfl wd_309 dX9_ties_16 ?_
  refine G_iconst (v := 0) dX9_ties_19 rfl ?_
  refine G_putN hclX5 (by decide) rfl 2 (by decide) rfl rfl (by decide +kernel) wn_185 dX9_ties_20 (fun M2 => ?_)
  refine G_iload_n dX9_ties_23 0 rfl ?_
  refine G_if_ne 38 dX9_ties_24 (by decide) (fun _ => ?_) (fun _ => ?_)
  refine G_bipush (v := -20) dX9_ties_27 rfl ?_
  refine G_aload_n dX9_ties_29 1 rfl ?_
  refine G_getR hclX9 (by decide) rfl 2 (by decide) rfl wd_309 dX9_ties_30 ?_
  refine G_getIN hclX5 (by decide) rfl 3 (by decide) rfl wn_187 dX9_ties_33 ?_
  refine G_isub dX9_ties_36 ?_
  exact G_ireturn rfl rfl dX9_ties_37 rfl
  refine G_aload_n dX9_ties_38 1 rfl ?_
  refine G_getR hclX9 (by decide) rfl 1 (by decide) rfl wd_308 dX9_ties_39 ?_
  refine G_getIN hclX6 (by decide) rfl 1 (by decide) rfl wn_166 dX9_ties_42 ?_
  refine G_aload_n dX9_ties_45 1 rfl ?_
  refine G_getR hclX9 (by decide) rfl 2 (by decide) rfl wd_309 dX9_ties_46 ?_
  refine G_getRN hclX5 (by decide) rfl 1 (by decide) rfl wn_183 dX9_ties_49 ?_
  refine G_getIN hclX6 (by decide) rfl 1 (by decide) rfl wn_166 dX9_ties_52 ?_
  refine G_iadd dX9_ties_55 ?_
  refine G_bipush (v := 60) dX9_ties_56 rfl ?_
  refine G_icmp_le 68 dX9_ties_58 (by decide) (fun _ => ?_) (fun _ => ?_)
  refine G_aload_n dX9_ties_68 1 rfl ?_
  refine G_getR hclX9 (by decide) rfl 1 (by decide) rfl wd_308 dX9_ties_69 ?_
  refine G_aload_n dX9_ties_72 1 rfl ?_
  refine G_getR hclX9 (by decide) rfl 2 (by decide) rfl wd_309 dX9_ties_73 ?_
  refine G_getRN hclX5 (by decide) rfl 1 (by decide) rfl wn_183 dX9_ties_76 ?_
  refine G_callVN_V (m_Td_takeAll M2) cal_Td_takeAll ⟨Nat.le_of_ble_eq_true rfl, Nat.le_of_ble_eq_true rfl⟩ wn_446 hclX6 (by decide) rfl [.ref (ad 8)] rfl rfl rfl (Nat.le_of_ble_eq_true rfl) dX9_ties_79 (fun M3 => ?_)
  refine G_aload_n dX9_ties_82 1 rfl ?_
  refine G_getR hclX9 (by decide) rfl 1 (by decide) rfl wd_308 dX9_ties_83 ?_
  refine G_getIN hclX6 (by decide) rfl 1 (by decide) rfl wn_166 dX9_ties_86 ?_
  exact G_ireturn rfl rfl dX9_ties_89 rfl
  refine G_aload_n dX9_ties_61 1 rfl ?_
  refine G_bipush (v := -6) dX9_ties_62 rfl ?_
  refine G_callV_IM (m_SP_refuse _ M2) cal_SP_refuse ⟨Nat.le_of_ble_eq_true rfl, Nat.le_of_ble_eq_true rfl⟩ wd_351 hclX9 (by decide) rfl [.int (-6)] rfl rfl rfl (Nat.le_of_ble_eq_true rfl) dX9_ties_64 (fun r_2 M4 => ?_)
  exact G_ireturn rfl rfl dX9_ties_67 rfl

set_option maxRecDepth 100000 in
set_option maxHeartbeats 4000000 in
theorem w_Td_drop_L5 (X : Cx) (ad : Nat → Nat) (kx : Mem → Option Mem) (hkx : ∀ (Me : Mem), G X ad mi_Td_drop (φV) 43 [(0, .ref (ad 4))] [] Me (kx Me)) : ∀ (n : Nat) (s : Int32 × Mem), G X ad mi_Td_drop (φV) 5 [(0, .ref (ad 4)), (2, .int s.1)] [] s.2 (LOOP (fun aq sq => Td_drop_L5 kx aq sq.1 sq.2) n s) := by
  refine LOOP_rule (fun (s : Int32 × Mem) o => G X ad mi_Td_drop (φV) 5 [(0, .ref (ad 4)), (2, .int s.1)] [] s.2 o) (fun _ => G_none) (fun ag hag s => ?_)
  obtain ⟨v2_2, M1⟩ := s
  show G X ad mi_Td_drop (φV) 5 [(0, .ref (ad 4)), (2, .int v2_2)] [] M1 (Td_drop_L5 kx ag v2_2 M1)
  unfold Td_drop_L5
  refine G_iload_n dX6_drop_5 1 rfl ?_
  refine G_aload_n dX6_drop_6 0 rfl ?_
  refine G_getI hclX6 (by decide) rfl 1 (by decide) rfl wd_165 dX6_drop_7 ?_
  refine G_iconst (v := 1) dX6_drop_10 rfl ?_
  refine G_isub dX6_drop_11 ?_
  refine G_bipush (v := 6) dX6_drop_12 rfl ?_
  refine G_imul dX6_drop_14 ?_
  refine G_icmp_ge 43 dX6_drop_15 (by decide) (fun _ => ?_) (fun _ => ?_)
  refine G_sub [0] rfl ?_
  exact hkx M1
  refine G_aload_n dX6_drop_18 0 rfl ?_
  refine G_getR hclX6 (by decide) rfl 0 (by decide) rfl wd_164 dX6_drop_19 ?_
  refine G_iload_n dX6_drop_22 1 rfl ?_
  refine G_aload_n dX6_drop_23 0 rfl ?_
  refine G_getR hclX6 (by decide) rfl 0 (by decide) rfl wd_164 dX6_drop_24 ?_
  refine G_iload_n dX6_drop_27 1 rfl ?_
  refine G_bipush (v := 6) dX6_drop_28 rfl ?_
  refine G_iadd dX6_drop_30 ?_
  refine G_callSN_I (m_SP_at 5 isA_5 _ M1) cal_SP_at ⟨Nat.le_of_ble_eq_true rfl, Nat.le_of_ble_eq_true rfl⟩ wn_429 rfl rfl (Nat.le_of_ble_eq_true rfl) dX6_drop_31 (fun r_1 => ?_)
  refine G_callSN_V (m_SP_put 5 isA_5 _ _ M1) cal_SP_put ⟨Nat.le_of_ble_eq_true rfl, Nat.le_of_ble_eq_true rfl⟩ wn_403 rfl rfl (Nat.le_of_ble_eq_true rfl) dX6_drop_34 (fun M2 => ?_)
  refine G_iinc (v2_2 + 1) dX6_drop_37 1 rfl rfl (by decide) (L' := [(2, .int (v2_2 + 1)), (0, .ref (ad 4))]) rfl ?_
  refine G_goto 5 dX6_drop_40 (by decide) ?_
  refine G_sub [1, 0] rfl ?_
  exact hag (v2_2 + 1, M2)

set_option maxRecDepth 100000 in
set_option maxHeartbeats 4000000 in
theorem m_Td_drop (v1 : Int32) (M : Mem) : MC mi_Td_drop (φV) (fun ad => [.ref (ad 4), .int v1]) M (Td_drop v1 M) := by
  refine MC_of rfl (by decide +kernel) (fun ad => [(0, .ref (ad 4)), (1, .int v1)]) (fun _ => rfl) (fun _ => Nat.le_of_ble_eq_true rfl) (fun X ad => ?_)
  show G X ad mi_Td_drop (φV) 0 [(0, .ref (ad 4)), (1, .int v1)] [] M _
  unfold Td_drop
  refine G_iload_n dX6_drop_0 1 rfl ?_
  refine G_bipush (v := 6) dX6_drop_1 rfl ?_
  refine G_imul dX6_drop_3 ?_
  refine G_nmI (fun v2_1 => ?_)
  refine G_istore_n 2 rfl dX6_drop_4 (by decide) (L' := [(2, .int v2_1), (0, .ref (ad 4)), (1, .int v1)]) rfl ?_
  refine G_sub [1, 0] rfl ?_
  refine w_Td_drop_L5 X ad _ (fun M3 => ?_) _ _
  refine G_aload_n dX6_drop_43 0 rfl ?_
  refine G_dup dX6_drop_44 rfl ?_
  refine G_getI hclX6 (by decide) rfl 1 (by decide) rfl wd_165 dX6_drop_45 ?_
  refine G_iconst (v := 1) dX6_drop_48 rfl ?_
  refine G_isub dX6_drop_49 ?_
  refine G_put hclX6 (by decide) rfl 1 (by decide) rfl rfl (by decide +kernel) wd_165 dX6_drop_50 (fun M4 => ?_)
  exact G_return rfl rfl dX6_drop_53 rfl

set_option maxRecDepth 100000 in
set_option maxHeartbeats 4000000 in
theorem m_SP_untie (v1 : Int32) (M : Mem) : MC mi_SP_untie (φIM) (fun ad => [.ref (ad 0), .int v1]) M (SP_untie v1 M) := by
  refine MC_of rfl (by decide +kernel) (fun ad => [(0, .ref (ad 0)), (1, .int v1)]) (fun _ => rfl) (fun _ => Nat.le_of_ble_eq_true rfl) (fun X ad => ?_)
  show G X ad mi_SP_untie (φIM) 0 [(0, .ref (ad 0)), (1, .int v1)] [] M _
  unfold SP_untie
  refine G_iload_n dX9_untie_0 1 rfl ?_
  refine G_jp (fun kq => G X ad mi_SP_untie (φIM) 15 [(0, .ref (ad 0))] [] M (kq)) ?_ (fun k_1 hk_1 => ?_)
  refine G_aload_n dX9_untie_15 0 rfl ?_
  refine G_iconst (v := -1) dX9_untie_16 rfl ?_
  refine G_callV_IM (m_SP_refuse _ M) cal_SP_refuse ⟨Nat.le_of_ble_eq_true rfl, Nat.le_of_ble_eq_true rfl⟩ wd_351 hclX9 (by decide) rfl [.int (-1)] rfl rfl rfl (Nat.le_of_ble_eq_true rfl) dX9_untie_17 (fun r_1 M1 => ?_)
  exact G_ireturn rfl rfl dX9_untie_20 rfl
  refine G_if_lt 15 dX9_untie_1 (by decide) (fun _ => ?_) (fun _ => ?_)
  refine G_sub [0] rfl ?_
  exact hk_1
  refine G_iload_n dX9_untie_4 1 rfl ?_
  refine G_aload_n dX9_untie_5 0 rfl ?_
  refine G_getR hclX9 (by decide) rfl 1 (by decide) rfl wd_308 dX9_untie_6 ?_
  refine G_getIN hclX6 (by decide) rfl 1 (by decide) rfl wn_166 dX9_untie_9 ?_
  refine G_icmp_lt 21 dX9_untie_12 (by decide) (fun _ => ?_) (fun _ => ?_)
  refine G_aload_n dX9_untie_21 0 rfl ?_
  refine G_getR hclX9 (by decide) rfl 1 (by decide) rfl wd_308 dX9_untie_22 ?_
  refine G_iload_n dX9_untie_25 1 rfl ?_
  refine G_callVN_V (m_Td_drop _ M) cal_Td_drop ⟨Nat.le_of_ble_eq_true rfl, Nat.le_of_ble_eq_true rfl⟩ wn_457 hclX6 (by decide) rfl [.int v1] rfl rfl rfl (Nat.le_of_ble_eq_true rfl) dX9_untie_26 (fun M2 => ?_)
  refine G_iconst (v := 1) dX9_untie_29 rfl ?_
  exact G_ireturn rfl rfl dX9_untie_30 rfl
  refine G_sub [0] rfl ?_
  exact hk_1

set_option maxRecDepth 100000 in
set_option maxHeartbeats 4000000 in
theorem m_SP_isKind (v0 : Int32) (M : Mem) : MC mi_SP_isKind (φI M) (fun ad => [.int v0]) M (SP_isKind v0) := by
  refine MC_of rfl (by decide +kernel) (fun ad => [(0, .int v0)]) (fun _ => rfl) (fun _ => Nat.le_of_ble_eq_true rfl) (fun X ad => ?_)
  show G X ad mi_SP_isKind (φI M) 0 [(0, .int v0)] [] M _
  unfold SP_isKind
  refine G_iload_n dX9_isKind_0 0 rfl ?_
  refine G_if_lt 13 dX9_isKind_1 (by decide) (fun _ => ?_) (fun _ => ?_)
  refine G_iconst (v := 0) dX9_isKind_13 rfl ?_
  exact G_zreturn rfl rfl dX9_isKind_14 rfl
  refine G_iload_n dX9_isKind_4 0 rfl ?_
  refine G_iconst (v := 3) dX9_isKind_5 rfl ?_
  refine G_icmp_ge 13 dX9_isKind_6 (by decide) (fun _ => ?_) (fun _ => ?_)
  refine G_iconst (v := 0) dX9_isKind_13 rfl ?_
  exact G_zreturn rfl rfl dX9_isKind_14 rfl
  refine G_iconst (v := 1) dX9_isKind_9 rfl ?_
  refine G_goto 14 dX9_isKind_10 (by decide) ?_
  exact G_zreturn rfl rfl dX9_isKind_14 rfl

set_option maxRecDepth 100000 in
set_option maxHeartbeats 4000000 in
theorem m_SP_cell (v0 : Int32) (v1 : Int32) (v2 : Int32) (M : Mem) : MC mi_SP_cell (φI M) (fun ad => [.int v0, .int v1, .int v2]) M (SP_cell v0 v1 v2) := by
  refine MC_of rfl (by decide +kernel) (fun ad => [(0, .int v0), (1, .int v1), (2, .int v2)]) (fun _ => rfl) (fun _ => Nat.le_of_ble_eq_true rfl) (fun X ad => ?_)
  show G X ad mi_SP_cell (φI M) 0 [(0, .int v0), (1, .int v1), (2, .int v2)] [] M _
  unfold SP_cell
  refine G_iload_n dX9_cell_0 0 rfl ?_
  refine G_bipush (v := 7) dX9_cell_1 rfl ?_
  refine G_imul dX9_cell_3 ?_
  refine G_iload_n dX9_cell_4 1 rfl ?_
  refine G_iadd dX9_cell_5 ?_
  refine G_bipush (v := 7) dX9_cell_6 rfl ?_
  refine G_imul dX9_cell_8 ?_
  refine G_iload_n dX9_cell_9 2 rfl ?_
  refine G_iadd dX9_cell_10 ?_
  exact G_ireturn rfl rfl dX9_cell_11 rfl

set_option maxRecDepth 100000 in
set_option maxHeartbeats 4000000 in
theorem w_Td_draw_L9 (X : Cx) (ad : Nat → Nat) (v2_1 : Int32) (kx : Mem → Option Mem) (hkx : ∀ (Me : Mem), G X ad mi_Td_draw (φV) 81 [] [] Me (kx Me)) : ∀ (n : Nat) (s : Int32 × Mem), G X ad mi_Td_draw (φV) 9 [(0, .ref (ad 4)), (1, .ref (ad 1)), (2, .int v2_1), (3, .int s.1)] [] s.2 (LOOP (fun aq sq => Td_draw_L9 v2_1 kx aq sq.1 sq.2) n s) := by
  refine LOOP_rule (fun (s : Int32 × Mem) o => G X ad mi_Td_draw (φV) 9 [(0, .ref (ad 4)), (1, .ref (ad 1)), (2, .int v2_1), (3, .int s.1)] [] s.2 o) (fun _ => G_none) (fun ag hag s => ?_)
  obtain ⟨v3_1, M2⟩ := s
  show G X ad mi_Td_draw (φV) 9 [(0, .ref (ad 4)), (1, .ref (ad 1)), (2, .int v2_1), (3, .int v3_1)] [] M2 (Td_draw_L9 v2_1 kx ag v3_1 M2)
  unfold Td_draw_L9
  refine G_iload_n dX6_draw_9 3 rfl ?_
  refine G_aload_n dX6_draw_10 0 rfl ?_
  refine G_getI hclX6 (by decide) rfl 1 (by decide) rfl wd_165 dX6_draw_11 ?_
  refine G_icmp_ge 81 dX6_draw_14 (by decide) (fun _ => ?_) (fun _ => ?_)
  refine G_sub [] rfl ?_
  exact hkx M2
  refine G_aload_n dX6_draw_17 0 rfl ?_
  refine G_iload_n dX6_draw_18 3 rfl ?_
  refine G_iconst (v := 4) dX6_draw_19 rfl ?_
  refine G_callV_I (m_Td_field 4 isT_4 _ _ M2) cal_Td_field ⟨Nat.le_of_ble_eq_true rfl, Nat.le_of_ble_eq_true rfl⟩ wd_450 hclX6 (by decide) rfl [.int v3_1, .int 4] rfl rfl rfl (Nat.le_of_ble_eq_true rfl) dX6_draw_20 (fun r_1 => ?_)
  refine G_iload_n dX6_draw_23 2 rfl ?_
  refine G_icmp_gt 75 dX6_draw_24 (by decide) (fun _ => ?_) (fun _ => ?_)
  refine G_iinc (v3_1 + 1) dX6_draw_75 3 rfl rfl (by decide) (L' := [(3, .int (v3_1 + 1)), (0, .ref (ad 4)), (1, .ref (ad 1)), (2, .int v2_1)]) rfl ?_
  refine G_goto 9 dX6_draw_78 (by decide) ?_
  refine G_sub [1, 2, 3, 0] rfl ?_
  exact hag (v3_1 + 1, M2)
  refine G_iload_n dX6_draw_27 2 rfl ?_
  refine G_aload_n dX6_draw_28 0 rfl ?_
  refine G_iload_n dX6_draw_29 3 rfl ?_
  refine G_iconst (v := 5) dX6_draw_30 rfl ?_
  refine G_callV_I (m_Td_field 4 isT_4 _ _ M2) cal_Td_field ⟨Nat.le_of_ble_eq_true rfl, Nat.le_of_ble_eq_true rfl⟩ wd_450 hclX6 (by decide) rfl [.int v3_1, .int 5] rfl rfl rfl (Nat.le_of_ble_eq_true rfl) dX6_draw_31 (fun r_2 => ?_)
  refine G_icmp_ge 75 dX6_draw_34 (by decide) (fun _ => ?_) (fun _ => ?_)
  refine G_iinc (v3_1 + 1) dX6_draw_75 3 rfl rfl (by decide) (L' := [(3, .int (v3_1 + 1)), (0, .ref (ad 4)), (1, .ref (ad 1)), (2, .int v2_1)]) rfl ?_
  refine G_goto 9 dX6_draw_78 (by decide) ?_
  refine G_sub [1, 2, 3, 0] rfl ?_
  exact hag (v3_1 + 1, M2)
  refine G_aload_n dX6_draw_37 0 rfl ?_
  refine G_iload_n dX6_draw_38 3 rfl ?_
  refine G_iconst (v := 2) dX6_draw_39 rfl ?_
  refine G_callV_I (m_Td_field 4 isT_4 _ _ M2) cal_Td_field ⟨Nat.le_of_ble_eq_true rfl, Nat.le_of_ble_eq_true rfl⟩ wd_450 hclX6 (by decide) rfl [.int v3_1, .int 2] rfl rfl rfl (Nat.le_of_ble_eq_true rfl) dX6_draw_40 (fun r_3 => ?_)
  refine G_aload_n dX6_draw_43 0 rfl ?_
  refine G_iload_n dX6_draw_44 3 rfl ?_
  refine G_iconst (v := 0) dX6_draw_45 rfl ?_
  refine G_callV_I (m_Td_field 4 isT_4 _ _ M2) cal_Td_field ⟨Nat.le_of_ble_eq_true rfl, Nat.le_of_ble_eq_true rfl⟩ wd_450 hclX6 (by decide) rfl [.int v3_1, .int 0] rfl rfl rfl (Nat.le_of_ble_eq_true rfl) dX6_draw_46 (fun r_4 => ?_)
  refine G_aload_n dX6_draw_49 0 rfl ?_
  refine G_iload_n dX6_draw_50 3 rfl ?_
  refine G_iconst (v := 1) dX6_draw_51 rfl ?_
  refine G_callV_I (m_Td_field 4 isT_4 _ _ M2) cal_Td_field ⟨Nat.le_of_ble_eq_true rfl, Nat.le_of_ble_eq_true rfl⟩ wd_450 hclX6 (by decide) rfl [.int v3_1, .int 1] rfl rfl rfl (Nat.le_of_ble_eq_true rfl) dX6_draw_52 (fun r_5 => ?_)
  refine G_callSN_I (m_SP_cell _ _ _ M2) cal_SP_cell ⟨Nat.le_of_ble_eq_true rfl, Nat.le_of_ble_eq_true rfl⟩ wn_477 rfl rfl (Nat.le_of_ble_eq_true rfl) dX6_draw_55 (fun r_6 => ?_)
  refine G_istore dX6_draw_58 (by decide) (L' := [(4, .int r_6), (0, .ref (ad 4)), (1, .ref (ad 1)), (2, .int v2_1), (3, .int v3_1)]) rfl ?_
  refine G_aload_n dX6_draw_60 2 rfl ?_
  refine G_getRN hclX7 (by decide) rfl 1 (by decide) rfl wn_143 dX6_draw_61 ?_
  refine G_iload dX6_draw_64 0 rfl ?_
  refine G_aload_n dX6_draw_66 1 rfl ?_
  refine G_iload_n dX6_draw_67 4 rfl ?_
  refine G_iconst (v := 3) dX6_draw_68 rfl ?_
  refine G_callV_I (m_Td_field 4 isT_4 _ _ M2) cal_Td_field ⟨Nat.le_of_ble_eq_true rfl, Nat.le_of_ble_eq_true rfl⟩ wd_450 hclX6 (by decide) rfl [.int v3_1, .int 3] rfl rfl rfl (Nat.le_of_ble_eq_true rfl) dX6_draw_69 (fun r_7 => ?_)
  refine G_callSN_V (m_SP_put 3 isA_3 _ _ M2) cal_SP_put ⟨Nat.le_of_ble_eq_true rfl, Nat.le_of_ble_eq_true rfl⟩ wn_403 rfl rfl (Nat.le_of_ble_eq_true rfl) dX6_draw_72 (fun M3 => ?_)
  refine G_iinc (v3_1 + 1) dX6_draw_75 4 rfl rfl (by decide) (L' := [(3, .int (v3_1 + 1)), (4, .int r_6), (0, .ref (ad 4)), (1, .ref (ad 1)), (2, .int v2_1)]) rfl ?_
  refine G_goto 9 dX6_draw_78 (by decide) ?_
  refine G_sub [2, 3, 4, 0] rfl ?_
  exact hag (v3_1 + 1, M3)

set_option maxRecDepth 100000 in
set_option maxHeartbeats 4000000 in
theorem m_Td_draw (v2 : Int32) (M : Mem) : MC mi_Td_draw (φV) (fun ad => [.ref (ad 4), .ref (ad 1), .int v2]) M (Td_draw v2 M) := by
  refine MC_of rfl (by decide +kernel) (fun ad => [(0, .ref (ad 4)), (1, .ref (ad 1)), (2, .int v2)]) (fun _ => rfl) (fun _ => Nat.le_of_ble_eq_true rfl) (fun X ad => ?_)
  show G X ad mi_Td_draw (φV) 0 [(0, .ref (ad 4)), (1, .ref (ad 1)), (2, .int v2)] [] M _
  unfold Td_draw
  refine G_aload_n dX6_draw_0 1 rfl ?_
  refine G_getRN hclX7 (by decide) rfl 1 (by decide) rfl wn_143 dX6_draw_1 ?_
  refine G_callSN_V (m_SP_wipe 3 isA_3 M) cal_SP_wipe ⟨Nat.le_of_ble_eq_true rfl, Nat.le_of_ble_eq_true rfl⟩ wn_476 rfl rfl (Nat.le_of_ble_eq_true rfl) dX6_draw_4 (fun M1 => ?_)
  refine G_iconst (v := 0) dX6_draw_7 rfl ?_
  refine G_istore_n 3 rfl dX6_draw_8 (by decide) (L' := [(3, .int 0), (0, .ref (ad 4)), (1, .ref (ad 1)), (2, .int v2)]) rfl ?_
  refine G_sub [1, 2, 3, 0] rfl ?_
  refine w_Td_draw_L9 X ad v2 _ (fun M4 => ?_) _ _
  exact G_return rfl rfl dX6_draw_81 rfl

set_option maxRecDepth 100000 in
set_option maxHeartbeats 4000000 in
theorem m_SP_lookAt (v1 : Int32) (M : Mem) : MC mi_SP_lookAt (φV) (fun ad => [.ref (ad 0), .int v1]) M (SP_lookAt v1 M) := by
  refine MC_of rfl (by decide +kernel) (fun ad => [(0, .ref (ad 0)), (1, .int v1)]) (fun _ => rfl) (fun _ => Nat.le_of_ble_eq_true rfl) (fun X ad => ?_)
  show G X ad mi_SP_lookAt (φV) 0 [(0, .ref (ad 0)), (1, .int v1)] [] M _
  unfold SP_lookAt
  refine G_aload_n dX9_lookAt_0 0 rfl ?_
  refine G_getR hclX9 (by decide) rfl 1 (by decide) rfl wd_308 dX9_lookAt_1 ?_
  refine G_aload_n dX9_lookAt_4 0 rfl ?_
  refine G_getR hclX9 (by decide) rfl 0 (by decide) rfl wd_307 dX9_lookAt_5 ?_
  refine G_iload_n dX9_lookAt_8 1 rfl ?_
  refine G_callVN_V (m_Td_draw _ M) cal_Td_draw ⟨Nat.le_of_ble_eq_true rfl, Nat.le_of_ble_eq_true rfl⟩ wn_472 hclX6 (by decide) rfl [.ref (ad 1), .int v1] rfl rfl rfl (Nat.le_of_ble_eq_true rfl) dX9_lookAt_9 (fun M1 => ?_)
  exact G_return rfl rfl dX9_lookAt_12 rfl

set_option maxRecDepth 100000 in
set_option maxHeartbeats 4000000 in
theorem m_To_strength (v1 : Int32) (v2 : Int32) (v3 : Int32) (M : Mem) : MC mi_To_strength (φI M) (fun ad => [.ref (ad 1), .int v1, .int v2, .int v3]) M (To_strength v1 v2 v3 M) := by
  refine MC_of rfl (by decide +kernel) (fun ad => [(0, .ref (ad 1)), (1, .int v1), (2, .int v2), (3, .int v3)]) (fun _ => rfl) (fun _ => Nat.le_of_ble_eq_true rfl) (fun X ad => ?_)
  show G X ad mi_To_strength (φI M) 0 [(0, .ref (ad 1)), (1, .int v1), (2, .int v2), (3, .int v3)] [] M _
  unfold To_strength
  refine G_iload_n dX7_strength_0 1 rfl ?_
  refine G_bipush (v := 7) dX7_strength_1 rfl ?_
  refine G_imul dX7_strength_3 ?_
  refine G_iload_n dX7_strength_4 2 rfl ?_
  refine G_iadd dX7_strength_5 ?_
  refine G_bipush (v := 7) dX7_strength_6 rfl ?_
  refine G_imul dX7_strength_8 ?_
  refine G_iload_n dX7_strength_9 3 rfl ?_
  refine G_iadd dX7_strength_10 ?_
  refine G_nmI (fun v4_1 => ?_)
  refine G_istore dX7_strength_11 (by decide) (L' := [(4, .int v4_1), (0, .ref (ad 1)), (1, .int v1), (2, .int v2), (3, .int v3)]) rfl ?_
  refine G_iload dX7_strength_13 0 rfl ?_
  refine G_if_lt 38 dX7_strength_15 (by decide) (fun _ => ?_) (fun _ => ?_)
  refine G_iconst (v := 0) dX7_strength_38 rfl ?_
  exact G_ireturn rfl rfl dX7_strength_39 rfl
  refine G_iload dX7_strength_18 0 rfl ?_
  refine G_aload_n dX7_strength_20 1 rfl ?_
  refine G_getR hclX7 (by decide) rfl 1 (by decide) rfl wd_142 dX7_strength_21 ?_
  refine G_alen (by decide) rfl dX7_strength_24 ?_
  refine G_icmp_ge 38 dX7_strength_25 (by decide) (fun _ => ?_) (fun _ => ?_)
  refine G_iconst (v := 0) dX7_strength_38 rfl ?_
  exact G_ireturn rfl rfl dX7_strength_39 rfl
  refine G_aload_n dX7_strength_28 1 rfl ?_
  refine G_getR hclX7 (by decide) rfl 1 (by decide) rfl wd_142 dX7_strength_29 ?_
  refine G_iload dX7_strength_32 0 rfl ?_
  refine G_iald (by decide) rfl dX7_strength_34 ?_
  refine G_goto 39 dX7_strength_35 (by decide) ?_
  exact G_ireturn rfl rfl dX7_strength_39 rfl

set_option maxRecDepth 100000 in
set_option maxHeartbeats 4000000 in
theorem m_SP_tie (v1 : Int32) (v2 : Int32) (v3 : Int32) (M : Mem) : MC mi_SP_tie (φIM) (fun ad => [.ref (ad 0), .int v1, .int v2, .int v3]) M (SP_tie v1 v2 v3 M) := by
  refine MC_of rfl (by decide +kernel) (fun ad => [(0, .ref (ad 0)), (1, .int v1), (2, .int v2), (3, .int v3)]) (fun _ => rfl) (fun _ => Nat.le_of_ble_eq_true rfl) (fun X ad => ?_)
  show G X ad mi_SP_tie (φIM) 0 [(0, .ref (ad 0)), (1, .int v1), (2, .int v2), (3, .int v3)] [] M _
  unfold SP_tie
  refine G_iload_n dX9_tie_0 1 rfl ?_
  refine G_callS_I (m_SP_isKind _ M) cal_SP_isKind ⟨Nat.le_of_ble_eq_true rfl, Nat.le_of_ble_eq_true rfl⟩ wd_465 rfl rfl (Nat.le_of_ble_eq_true rfl) dX9_tie_1 (fun r_1 => ?_)
  refine G_jp (fun kq => G X ad mi_SP_tie (φIM) 34 [(0, .ref (ad 0))] [] M (kq)) ?_ (fun k_1 hk_1 => ?_)
  refine G_aload_n dX9_tie_34 0 rfl ?_
  refine G_iconst (v := -1) dX9_tie_35 rfl ?_
  refine G_callV_IM (m_SP_refuse _ M) cal_SP_refuse ⟨Nat.le_of_ble_eq_true rfl, Nat.le_of_ble_eq_true rfl⟩ wd_351 hclX9 (by decide) rfl [.int (-1)] rfl rfl rfl (Nat.le_of_ble_eq_true rfl) dX9_tie_36 (fun r_2 M1 => ?_)
  exact G_ireturn rfl rfl dX9_tie_39 rfl
  refine G_if_eq 34 dX9_tie_4 (by decide) (fun _ => ?_) (fun _ => ?_)
  refine G_sub [0] rfl ?_
  exact hk_1
  refine G_aload_n dX9_tie_7 0 rfl ?_
  refine G_getR hclX9 (by decide) rfl 0 (by decide) rfl wd_307 dX9_tie_8 ?_
  refine G_iload_n dX9_tie_11 2 rfl ?_
  refine G_callVN_I (m_To_lives _ M) cal_To_lives ⟨Nat.le_of_ble_eq_true rfl, Nat.le_of_ble_eq_true rfl⟩ wn_369 hclX7 (by decide) rfl [.int v2] rfl rfl rfl (Nat.le_of_ble_eq_true rfl) dX9_tie_12 (fun r_3 => ?_)
  refine G_if_eq 34 dX9_tie_15 (by decide) (fun _ => ?_) (fun _ => ?_)
  refine G_sub [0] rfl ?_
  exact hk_1
  refine G_aload_n dX9_tie_18 0 rfl ?_
  refine G_getR hclX9 (by decide) rfl 0 (by decide) rfl wd_307 dX9_tie_19 ?_
  refine G_iload_n dX9_tie_22 3 rfl ?_
  refine G_callVN_I (m_To_lives _ M) cal_To_lives ⟨Nat.le_of_ble_eq_true rfl, Nat.le_of_ble_eq_true rfl⟩ wn_369 hclX7 (by decide) rfl [.int v3] rfl rfl rfl (Nat.le_of_ble_eq_true rfl) dX9_tie_23 (fun r_4 => ?_)
  refine G_if_eq 34 dX9_tie_26 (by decide) (fun _ => ?_) (fun _ => ?_)
  refine G_sub [0] rfl ?_
  exact hk_1
  refine G_iload_n dX9_tie_29 2 rfl ?_
  refine G_iload_n dX9_tie_30 3 rfl ?_
  refine G_icmp_ne 40 dX9_tie_31 (by decide) (fun _ => ?_) (fun _ => ?_)
  refine G_sub [0] rfl ?_
  exact hk_1
  refine G_aload_n dX9_tie_40 0 rfl ?_
  refine G_aload_n dX9_tie_41 0 rfl ?_
  refine G_getI hclX9 (by decide) rfl 12 (by decide) rfl wd_319 dX9_tie_42 ?_
  refine G_callV_V (m_SP_lookAt _ M) cal_SP_lookAt ⟨Nat.le_of_ble_eq_true rfl, Nat.le_of_ble_eq_true rfl⟩ wd_468 hclX9 (by decide) rfl [.int (M 0 12)] rfl rfl rfl (Nat.le_of_ble_eq_true rfl) dX9_tie_45 (fun M2 => ?_)
  refine G_aload_n dX9_tie_48 0 rfl ?_
  refine G_getR hclX9 (by decide) rfl 0 (by decide) rfl wd_307 dX9_tie_49 ?_
  refine G_iload_n dX9_tie_52 1 rfl ?_
  refine G_iload_n dX9_tie_53 2 rfl ?_
  refine G_iload_n dX9_tie_54 3 rfl ?_
  refine G_callVN_I (m_To_strength _ _ _ M2) cal_To_strength ⟨Nat.le_of_ble_eq_true rfl, Nat.le_of_ble_eq_true rfl⟩ wn_480 hclX7 (by decide) rfl [.int v1, .int v2, .int v3] rfl rfl rfl (Nat.le_of_ble_eq_true rfl) dX9_tie_55 (fun r_5 => ?_)
  exact G_ireturn rfl rfl dX9_tie_58 rfl

set_option maxRecDepth 100000 in
set_option maxHeartbeats 4000000 in
theorem m_To_tied (v1 : Int32) (v2 : Int32) (v3 : Int32) (M : Mem) : MC mi_To_tied (φI M) (fun ad => [.ref (ad 1), .int v1, .int v2, .int v3]) M (To_tied v1 v2 v3 M) := by
  refine MC_of rfl (by decide +kernel) (fun ad => [(0, .ref (ad 1)), (1, .int v1), (2, .int v2), (3, .int v3)]) (fun _ => rfl) (fun _ => Nat.le_of_ble_eq_true rfl) (fun X ad => ?_)
  show G X ad mi_To_tied (φI M) 0 [(0, .ref (ad 1)), (1, .int v1), (2, .int v2), (3, .int v3)] [] M _
  unfold To_tied
  refine G_aload_n dX7_tied_0 0 rfl ?_
  refine G_iload_n dX7_tied_1 1 rfl ?_
  refine G_iload_n dX7_tied_2 2 rfl ?_
  refine G_iload_n dX7_tied_3 3 rfl ?_
  refine G_callV_I (m_To_strength _ _ _ M) cal_To_strength ⟨Nat.le_of_ble_eq_true rfl, Nat.le_of_ble_eq_true rfl⟩ wd_496 hclX7 (by decide) rfl [.int v1, .int v2, .int v3] rfl rfl rfl (Nat.le_of_ble_eq_true rfl) dX7_tied_4 (fun r_1 => ?_)
  refine G_if_le 14 dX7_tied_7 (by decide) (fun _ => ?_) (fun _ => ?_)
  refine G_iconst (v := 0) dX7_tied_14 rfl ?_
  exact G_zreturn rfl rfl dX7_tied_15 rfl
  refine G_iconst (v := 1) dX7_tied_10 rfl ?_
  refine G_goto 15 dX7_tied_11 (by decide) ?_
  exact G_zreturn rfl rfl dX7_tied_15 rfl

set_option maxRecDepth 100000 in
set_option maxHeartbeats 4000000 in
theorem w_To_tiesOf_L6 (X : Cx) (ad : Nat → Nat) (v1_1 : Int32) (v2_1 : Int32) (v3_1 : Int32) (M : Mem) (kx : Int32 → Option Int32) (hkx : ∀ (e4 : Int32), G X ad mi_To_tiesOf (φI M) 53 [(4, .int e4)] [] M (kx e4)) : ∀ (n : Nat) (s : Int32 × Int32), G X ad mi_To_tiesOf (φI M) 6 [(0, .ref (ad 1)), (1, .int v1_1), (2, .int v2_1), (3, .int v3_1), (4, .int s.1), (5, .int s.2)] [] M (LOOP (fun aq sq => To_tiesOf_L6 v1_1 v2_1 v3_1 M kx aq sq.1 sq.2) n s) := by
  refine LOOP_rule (fun (s : Int32 × Int32) o => G X ad mi_To_tiesOf (φI M) 6 [(0, .ref (ad 1)), (1, .int v1_1), (2, .int v2_1), (3, .int v3_1), (4, .int s.1), (5, .int s.2)] [] M o) (fun _ => G_none) (fun ag hag s => ?_)
  obtain ⟨v4_1, v5_1⟩ := s
  show G X ad mi_To_tiesOf (φI M) 6 [(0, .ref (ad 1)), (1, .int v1_1), (2, .int v2_1), (3, .int v3_1), (4, .int v4_1), (5, .int v5_1)] [] M (To_tiesOf_L6 v1_1 v2_1 v3_1 M kx ag v4_1 v5_1)
  unfold To_tiesOf_L6
  refine G_iload dX7_tiesOf_6 5 rfl ?_
  refine G_aload_n dX7_tiesOf_8 0 rfl ?_
  refine G_getI hclX7 (by decide) rfl 2 (by decide) rfl wd_144 dX7_tiesOf_9 ?_
  refine G_icmp_ge 53 dX7_tiesOf_12 (by decide) (fun _ => ?_) (fun _ => ?_)
  refine G_sub [4] rfl ?_
  exact hkx v4_1
  refine G_iload_n dX7_tiesOf_15 3 rfl ?_
  refine G_if_eq 33 dX7_tiesOf_16 (by decide) (fun _ => ?_) (fun _ => ?_)
  refine G_aload_n dX7_tiesOf_33 0 rfl ?_
  refine G_iload_n dX7_tiesOf_34 1 rfl ?_
  refine G_iload_n dX7_tiesOf_35 2 rfl ?_
  refine G_iload dX7_tiesOf_36 5 rfl ?_
  refine G_callV_I (m_To_tied _ _ _ M) cal_To_tied ⟨Nat.le_of_ble_eq_true rfl, Nat.le_of_ble_eq_true rfl⟩ wd_492 hclX7 (by decide) rfl [.int v1_1, .int v2_1, .int v5_1] rfl rfl rfl (Nat.le_of_ble_eq_true rfl) dX7_tiesOf_38 (fun r_1 => ?_)
  refine G_if_eq 47 dX7_tiesOf_41 (by decide) (fun _ => ?_) (fun _ => ?_)
  refine G_iinc (v5_1 + 1) dX7_tiesOf_47 5 rfl rfl (by decide) (L' := [(5, .int (v5_1 + 1)), (0, .ref (ad 1)), (1, .int v1_1), (2, .int v2_1), (3, .int v3_1), (4, .int v4_1)]) rfl ?_
  refine G_goto 6 dX7_tiesOf_50 (by decide) ?_
  refine G_sub [1, 2, 3, 4, 5, 0] rfl ?_
  exact hag (v4_1, v5_1 + 1)
  refine G_iinc (v4_1 + 1) dX7_tiesOf_44 4 rfl rfl (by decide) (L' := [(4, .int (v4_1 + 1)), (0, .ref (ad 1)), (1, .int v1_1), (2, .int v2_1), (3, .int v3_1), (5, .int v5_1)]) rfl ?_
  refine G_iinc (v5_1 + 1) dX7_tiesOf_47 5 rfl rfl (by decide) (L' := [(5, .int (v5_1 + 1)), (4, .int (v4_1 + 1)), (0, .ref (ad 1)), (1, .int v1_1), (2, .int v2_1), (3, .int v3_1)]) rfl ?_
  refine G_goto 6 dX7_tiesOf_50 (by decide) ?_
  refine G_sub [2, 3, 4, 5, 1, 0] rfl ?_
  exact hag (v4_1 + 1, v5_1 + 1)
  refine G_aload_n dX7_tiesOf_19 0 rfl ?_
  refine G_iload_n dX7_tiesOf_20 1 rfl ?_
  refine G_iload dX7_tiesOf_21 5 rfl ?_
  refine G_iload_n dX7_tiesOf_23 2 rfl ?_
  refine G_callV_I (m_To_tied _ _ _ M) cal_To_tied ⟨Nat.le_of_ble_eq_true rfl, Nat.le_of_ble_eq_true rfl⟩ wd_492 hclX7 (by decide) rfl [.int v1_1, .int v5_1, .int v2_1] rfl rfl rfl (Nat.le_of_ble_eq_true rfl) dX7_tiesOf_24 (fun r_2 => ?_)
  refine G_if_eq 47 dX7_tiesOf_27 (by decide) (fun _ => ?_) (fun _ => ?_)
  refine G_iinc (v5_1 + 1) dX7_tiesOf_47 5 rfl rfl (by decide) (L' := [(5, .int (v5_1 + 1)), (0, .ref (ad 1)), (1, .int v1_1), (2, .int v2_1), (3, .int v3_1), (4, .int v4_1)]) rfl ?_
  refine G_goto 6 dX7_tiesOf_50 (by decide) ?_
  refine G_sub [1, 2, 3, 4, 5, 0] rfl ?_
  exact hag (v4_1, v5_1 + 1)
  refine G_goto 44 dX7_tiesOf_30 (by decide) ?_
  refine G_iinc (v4_1 + 1) dX7_tiesOf_44 4 rfl rfl (by decide) (L' := [(4, .int (v4_1 + 1)), (0, .ref (ad 1)), (1, .int v1_1), (2, .int v2_1), (3, .int v3_1), (5, .int v5_1)]) rfl ?_
  refine G_iinc (v5_1 + 1) dX7_tiesOf_47 5 rfl rfl (by decide) (L' := [(5, .int (v5_1 + 1)), (4, .int (v4_1 + 1)), (0, .ref (ad 1)), (1, .int v1_1), (2, .int v2_1), (3, .int v3_1)]) rfl ?_
  refine G_goto 6 dX7_tiesOf_50 (by decide) ?_
  refine G_sub [2, 3, 4, 5, 1, 0] rfl ?_
  exact hag (v4_1 + 1, v5_1 + 1)

set_option maxRecDepth 100000 in
set_option maxHeartbeats 4000000 in
theorem m_To_tiesOf (v1 : Int32) (v2 : Int32) (v3 : Int32) (M : Mem) : MC mi_To_tiesOf (φI M) (fun ad => [.ref (ad 1), .int v1, .int v2, .int v3]) M (To_tiesOf v1 v2 v3 M) := by
  refine MC_of rfl (by decide +kernel) (fun ad => [(0, .ref (ad 1)), (1, .int v1), (2, .int v2), (3, .int v3)]) (fun _ => rfl) (fun _ => Nat.le_of_ble_eq_true rfl) (fun X ad => ?_)
  show G X ad mi_To_tiesOf (φI M) 0 [(0, .ref (ad 1)), (1, .int v1), (2, .int v2), (3, .int v3)] [] M _
  unfold To_tiesOf
  refine G_iconst (v := 0) dX7_tiesOf_0 rfl ?_
  refine G_istore dX7_tiesOf_1 (by decide) (L' := [(4, .int 0), (0, .ref (ad 1)), (1, .int v1), (2, .int v2), (3, .int v3)]) rfl ?_
  refine G_iconst (v := 0) dX7_tiesOf_3 rfl ?_
  refine G_istore dX7_tiesOf_4 (by decide) (L' := [(5, .int 0), (4, .int 0), (0, .ref (ad 1)), (1, .int v1), (2, .int v2), (3, .int v3)]) rfl ?_
  refine G_sub [2, 3, 4, 5, 1, 0] rfl ?_
  refine w_To_tiesOf_L6 X ad v1 v2 v3 M _ (fun v4_2 => ?_) _ _
  refine G_iload dX7_tiesOf_53 0 rfl ?_
  exact G_ireturn rfl rfl dX7_tiesOf_55 rfl

set_option maxRecDepth 100000 in
set_option maxHeartbeats 4000000 in
theorem m_SP_degree (v1 : Int32) (v2 : Int32) (v3 : Int32) (M : Mem) : MC mi_SP_degree (φIM) (fun ad => [.ref (ad 0), .int v1, .int v2, .int v3]) M (SP_degree v1 v2 v3 M) := by
  refine MC_of rfl (by decide +kernel) (fun ad => [(0, .ref (ad 0)), (1, .int v1), (2, .int v2), (3, .int v3)]) (fun _ => rfl) (fun _ => Nat.le_of_ble_eq_true rfl) (fun X ad => ?_)
  show G X ad mi_SP_degree (φIM) 0 [(0, .ref (ad 0)), (1, .int v1), (2, .int v2), (3, .int v3)] [] M _
  unfold SP_degree
  refine G_iload_n dX9_degree_0 1 rfl ?_
  refine G_callS_I (m_SP_isKind _ M) cal_SP_isKind ⟨Nat.le_of_ble_eq_true rfl, Nat.le_of_ble_eq_true rfl⟩ wd_465 rfl rfl (Nat.le_of_ble_eq_true rfl) dX9_degree_1 (fun r_1 => ?_)
  refine G_jp (fun kq => G X ad mi_SP_degree (φIM) 18 [(0, .ref (ad 0))] [] M (kq)) ?_ (fun k_1 hk_1 => ?_)
  refine G_aload_n dX9_degree_18 0 rfl ?_
  refine G_iconst (v := -1) dX9_degree_19 rfl ?_
  refine G_callV_IM (m_SP_refuse _ M) cal_SP_refuse ⟨Nat.le_of_ble_eq_true rfl, Nat.le_of_ble_eq_true rfl⟩ wd_351 hclX9 (by decide) rfl [.int (-1)] rfl rfl rfl (Nat.le_of_ble_eq_true rfl) dX9_degree_20 (fun r_2 M1 => ?_)
  exact G_ireturn rfl rfl dX9_degree_23 rfl
  refine G_if_eq 18 dX9_degree_4 (by decide) (fun _ => ?_) (fun _ => ?_)
  refine G_sub [0] rfl ?_
  exact hk_1
  refine G_aload_n dX9_degree_7 0 rfl ?_
  refine G_getR hclX9 (by decide) rfl 0 (by decide) rfl wd_307 dX9_degree_8 ?_
  refine G_iload_n dX9_degree_11 2 rfl ?_
  refine G_callVN_I (m_To_lives _ M) cal_To_lives ⟨Nat.le_of_ble_eq_true rfl, Nat.le_of_ble_eq_true rfl⟩ wn_369 hclX7 (by decide) rfl [.int v2] rfl rfl rfl (Nat.le_of_ble_eq_true rfl) dX9_degree_12 (fun r_3 => ?_)
  refine G_if_ne 24 dX9_degree_15 (by decide) (fun _ => ?_) (fun _ => ?_)
  refine G_sub [0] rfl ?_
  exact hk_1
  refine G_aload_n dX9_degree_24 0 rfl ?_
  refine G_aload_n dX9_degree_25 0 rfl ?_
  refine G_getI hclX9 (by decide) rfl 12 (by decide) rfl wd_319 dX9_degree_26 ?_
  refine G_callV_V (m_SP_lookAt _ M) cal_SP_lookAt ⟨Nat.le_of_ble_eq_true rfl, Nat.le_of_ble_eq_true rfl⟩ wd_468 hclX9 (by decide) rfl [.int (M 0 12)] rfl rfl rfl (Nat.le_of_ble_eq_true rfl) dX9_degree_29 (fun M2 => ?_)
  refine G_aload_n dX9_degree_32 0 rfl ?_
  refine G_getR hclX9 (by decide) rfl 0 (by decide) rfl wd_307 dX9_degree_33 ?_
  refine G_iload_n dX9_degree_36 1 rfl ?_
  refine G_iload_n dX9_degree_37 2 rfl ?_
  refine G_iload_n dX9_degree_38 3 rfl ?_
  refine G_callVN_I (m_To_tiesOf _ _ _ M2) cal_To_tiesOf ⟨Nat.le_of_ble_eq_true rfl, Nat.le_of_ble_eq_true rfl⟩ wn_488 hclX7 (by decide) rfl [.int v1, .int v2, .int v3] rfl rfl rfl (Nat.le_of_ble_eq_true rfl) dX9_degree_39 (fun r_4 => ?_)
  exact G_ireturn rfl rfl dX9_degree_42 rfl

set_option maxRecDepth 100000 in
set_option maxHeartbeats 4000000 in
theorem m_Pa_of (k0 : Nat) (hk0 : isP k0) (v1 : Int32) (M : Mem) : MC mi_Pa_of (φI M) (fun ad => [.ref (ad k0), .int v1]) M (Pa_of k0 v1 M) := by
  refine MC_of rfl (by decide +kernel) (fun ad => [(0, .ref (ad k0)), (1, .int v1)]) (fun _ => rfl) (fun _ => Nat.le_of_ble_eq_true rfl) (fun X ad => ?_)
  show G X ad mi_Pa_of (φI M) 0 [(0, .ref (ad k0)), (1, .int v1)] [] M _
  unfold Pa_of
  refine G_aload_n dX3_of_0 0 rfl ?_
  refine G_getR hclX3 (Nat.lt_of_succ_lt hk0.1) hk0.2.1 0 (by decide) rfl wd_284 dX3_of_1 ?_
  refine G_iload_n dX3_of_4 1 rfl ?_
  refine G_callSN_I (m_SP_at (k0 + 1) hk0.a _ M) cal_SP_at ⟨Nat.le_of_ble_eq_true rfl, Nat.le_of_ble_eq_true rfl⟩ wn_510 rfl rfl (Nat.le_of_ble_eq_true rfl) dX3_of_5 (fun r_1 => ?_)
  exact G_ireturn rfl rfl dX3_of_8 rfl

set_option maxRecDepth 100000 in
set_option maxHeartbeats 4000000 in
theorem w_Pa_readNumber_L17 (X : Cx) (ad : Nat → Nat) (k0 : Nat) (hk0 : isP k0) (v1_1 : Int32) (v2_1 : Int32) (kx : Int32 → Mem → Option (Int32 × Mem)) (hkx : ∀ (e3 : Int32) (Me : Mem), G X ad mi_Pa_readNumber (φIM) 46 [(0, .ref (ad k0)), (1, .int v1_1), (2, .int v2_1), (3, .int e3)] [] Me (kx e3 Me)) : ∀ (n : Nat) (s : Int32 × Int32 × Mem), G X ad mi_Pa_readNumber (φIM) 17 [(0, .ref (ad k0)), (1, .int v1_1), (2, .int v2_1), (3, .int s.1), (4, .int s.2.1)] [] s.2.2 (LOOP (fun aq sq => Pa_readNumber_L17 k0 kx aq sq.1 sq.2.1 sq.2.2) n s) := by
  refine LOOP_rule (fun (s : Int32 × Int32 × Mem) o => G X ad mi_Pa_readNumber (φIM) 17 [(0, .ref (ad k0)), (1, .int v1_1), (2, .int v2_1), (3, .int s.1), (4, .int s.2.1)] [] s.2.2 o) (fun _ => G_none) (fun ag hag s => ?_)
  obtain ⟨v3_1, v4_2, M3⟩ := s
  show G X ad mi_Pa_readNumber (φIM) 17 [(0, .ref (ad k0)), (1, .int v1_1), (2, .int v2_1), (3, .int v3_1), (4, .int v4_2)] [] M3 (Pa_readNumber_L17 k0 kx ag v3_1 v4_2 M3)
  unfold Pa_readNumber_L17
  refine G_iload dX3_readNumber_17 4 rfl ?_
  refine G_if_lt 46 dX3_readNumber_19 (by decide) (fun _ => ?_) (fun _ => ?_)
  refine G_sub [0, 1, 2, 3] rfl ?_
  exact hkx v3_1 M3
  refine G_aload_n dX3_readNumber_22 0 rfl ?_
  refine G_getR hclX3 (Nat.lt_of_succ_lt hk0.1) hk0.2.1 0 (by decide) rfl wd_284 dX3_readNumber_23 ?_
  refine G_iload dX3_readNumber_26 4 rfl ?_
  refine G_iload_n dX3_readNumber_28 3 rfl ?_
  refine G_bipush (v := 10) dX3_readNumber_29 rfl ?_
  refine G_irem dX3_readNumber_31 (by decide) ?_
  refine G_callSN_V (m_SP_put (k0 + 1) hk0.a _ _ M3) cal_SP_put ⟨Nat.le_of_ble_eq_true rfl, Nat.le_of_ble_eq_true rfl⟩ wn_505 rfl rfl (Nat.le_of_ble_eq_true rfl) dX3_readNumber_32 (fun M4 => ?_)
  refine G_iload_n dX3_readNumber_35 3 rfl ?_
  refine G_bipush (v := 10) dX3_readNumber_36 rfl ?_
  refine G_idiv dX3_readNumber_38 (by decide) ?_
  refine G_nmI (fun v3_2 => ?_)
  refine G_istore_n 3 rfl dX3_readNumber_39 (by decide) (L' := [(3, .int v3_2), (0, .ref (ad k0)), (1, .int v1_1), (2, .int v2_1), (4, .int v4_2)]) rfl ?_
  refine G_iinc (v4_2 + (-1)) dX3_readNumber_40 4 rfl rfl (by decide) (L' := [(4, .int (v4_2 + (-1))), (3, .int v3_2), (0, .ref (ad k0)), (1, .int v1_1), (2, .int v2_1)]) rfl ?_
  refine G_goto 17 dX3_readNumber_43 (by decide) ?_
  refine G_sub [2, 3, 4, 1, 0] rfl ?_
  exact hag (v3_2, v4_2 + (-1), M4)

set_option maxRecDepth 100000 in
set_option maxHeartbeats 4000000 in
theorem w_Pa_readNumber_L59 (X : Cx) (ad : Nat → Nat) (k0 : Nat) (hk0 : isP k0) (v2_2 : Int32) (kx : Mem → Option (Int32 × Mem)) (hkx : ∀ (Me : Mem), G X ad mi_Pa_readNumber (φIM) 105 [] [] Me (kx Me)) : ∀ (n : Nat) (s : Int32 × Mem), G X ad mi_Pa_readNumber (φIM) 59 [(0, .ref (ad k0)), (2, .int v2_2), (4, .int s.1)] [] s.2 (LOOP (fun aq sq => Pa_readNumber_L59 k0 v2_2 kx aq sq.1 sq.2) n s) := by
  refine LOOP_rule (fun (s : Int32 × Mem) o => G X ad mi_Pa_readNumber (φIM) 59 [(0, .ref (ad k0)), (2, .int v2_2), (4, .int s.1)] [] s.2 o) (fun _ => G_none) (fun ag hag s => ?_)
  obtain ⟨v4_3, M6⟩ := s
  show G X ad mi_Pa_readNumber (φIM) 59 [(0, .ref (ad k0)), (2, .int v2_2), (4, .int v4_3)] [] M6 (Pa_readNumber_L59 k0 v2_2 kx ag v4_3 M6)
  unfold Pa_readNumber_L59
  refine G_iload dX3_readNumber_59 2 rfl ?_
  refine G_iload_n dX3_readNumber_61 1 rfl ?_
  refine G_icmp_ge 105 dX3_readNumber_62 (by decide) (fun _ => ?_) (fun _ => ?_)
  refine G_sub [] rfl ?_
  exact hkx M6
  refine G_aload_n dX3_readNumber_65 0 rfl ?_
  refine G_iload dX3_readNumber_66 2 rfl ?_
  refine G_callV_I (m_Pa_of k0 hk0 _ M6) cal_Pa_of ⟨Nat.le_of_ble_eq_true rfl, Nat.le_of_ble_eq_true rfl⟩ wd_506 hclX3 (Nat.lt_of_succ_lt hk0.1) hk0.2.1 [.int v4_3] rfl rfl rfl (Nat.le_of_ble_eq_true rfl) dX3_readNumber_68 (fun r_1 => ?_)
  refine G_aload_n dX3_readNumber_71 0 rfl ?_
  refine G_getI hclX3 (Nat.lt_of_succ_lt hk0.1) hk0.2.1 2 (by decide) rfl wd_287 dX3_readNumber_72 ?_
  refine G_icmp_le 80 dX3_readNumber_75 (by decide) (fun _ => ?_) (fun _ => ?_)
  refine G_aload_n dX3_readNumber_80 0 rfl ?_
  refine G_aload_n dX3_readNumber_81 0 rfl ?_
  refine G_getI hclX3 (Nat.lt_of_succ_lt hk0.1) hk0.2.1 2 (by decide) rfl wd_287 dX3_readNumber_82 ?_
  refine G_aload_n dX3_readNumber_85 0 rfl ?_
  refine G_iload dX3_readNumber_86 2 rfl ?_
  refine G_callV_I (m_Pa_of k0 hk0 _ M6) cal_Pa_of ⟨Nat.le_of_ble_eq_true rfl, Nat.le_of_ble_eq_true rfl⟩ wd_506 hclX3 (Nat.lt_of_succ_lt hk0.1) hk0.2.1 [.int v4_3] rfl rfl rfl (Nat.le_of_ble_eq_true rfl) dX3_readNumber_88 (fun r_2 => ?_)
  refine G_iconst (v := 1) dX3_readNumber_91 rfl ?_
  refine G_iadd dX3_readNumber_92 ?_
  refine G_mmax wd_511 (Nat.le_of_ble_eq_true rfl) (Nat.le_of_ble_eq_true rfl) dX3_readNumber_93 ?_
  refine G_put hclX3 (Nat.lt_of_succ_lt hk0.1) hk0.2.1 2 (by decide) rfl rfl (by decide +kernel) wd_287 dX3_readNumber_96 (fun M7 => ?_)
  refine G_iinc (v4_3 + 1) dX3_readNumber_99 2 rfl rfl (by decide) (L' := [(4, .int (v4_3 + 1)), (0, .ref (ad k0)), (2, .int v2_2)]) rfl ?_
  refine G_goto 59 dX3_readNumber_102 (by decide) ?_
  refine G_sub [1, 2, 0] rfl ?_
  exact hag (v4_3 + 1, M7)
  refine G_iconst (v := 0) dX3_readNumber_78 rfl ?_
  exact G_zreturn rfl rfl dX3_readNumber_79 rfl

set_option maxRecDepth 100000 in
set_option maxHeartbeats 4000000 in
theorem m_Pa_readNumber (k0 : Nat) (hk0 : isP k0) (v1 : Int32) (v2 : Int32) (M : Mem) : MC mi_Pa_readNumber (φIM) (fun ad => [.ref (ad k0), .int v1, .int v2]) M (Pa_readNumber k0 v1 v2 M) := by
  refine MC_of rfl (by decide +kernel) (fun ad => [(0, .ref (ad k0)), (1, .int v1), (2, .int v2)]) (fun _ => rfl) (fun _ => Nat.le_of_ble_eq_true rfl) (fun X ad => ?_)
  show G X ad mi_Pa_readNumber (φIM) 0 [(0, .ref (ad k0)), (1, .int v1), (2, .int v2)] [] M _
  unfold Pa_readNumber
  refine G_aload_n dX3_readNumber_0 0 rfl ?_
  refine G_iload_n dX3_readNumber_1 2 rfl ?_
  refine G_put hclX3 (Nat.lt_of_succ_lt hk0.1) hk0.2.1 1 (by decide) rfl rfl (by decide +kernel) wd_285 dX3_readNumber_2 (fun M1 => ?_)
  refine G_aload_n dX3_readNumber_5 0 rfl ?_
  refine G_iconst (v := 0) dX3_readNumber_6 rfl ?_
  refine G_put hclX3 (Nat.lt_of_succ_lt hk0.1) hk0.2.1 2 (by decide) rfl rfl (by decide +kernel) wd_287 dX3_readNumber_7 (fun M2 => ?_)
  refine G_iload_n dX3_readNumber_10 1 rfl ?_
  refine G_istore_n 3 rfl dX3_readNumber_11 (by decide) (L' := [(3, .int v1), (0, .ref (ad k0)), (1, .int v1), (2, .int v2)]) rfl ?_
  refine G_iload_n dX3_readNumber_12 3 rfl ?_
  refine G_iconst (v := 1) dX3_readNumber_13 rfl ?_
  refine G_isub dX3_readNumber_14 ?_
  refine G_nmI (fun v4_1 => ?_)
  refine G_istore dX3_readNumber_15 (by decide) (L' := [(4, .int v4_1), (3, .int v1), (0, .ref (ad k0)), (1, .int v1), (2, .int v2)]) rfl ?_
  refine G_sub [2, 3, 4, 1, 0] rfl ?_
  refine w_Pa_readNumber_L17 X ad k0 hk0 v1 v2 _ (fun v3_3 M5 => ?_) _ _
  refine G_iload_n dX3_readNumber_46 1 rfl ?_
  refine G_if_lt 54 dX3_readNumber_47 (by decide) (fun _ => ?_) (fun _ => ?_)
  refine G_iconst (v := 0) dX3_readNumber_54 rfl ?_
  exact G_zreturn rfl rfl dX3_readNumber_55 rfl
  refine G_iload_n dX3_readNumber_50 3 rfl ?_
  refine G_if_eq 56 dX3_readNumber_51 (by decide) (fun _ => ?_) (fun _ => ?_)
  refine G_iconst (v := 0) dX3_readNumber_56 rfl ?_
  refine G_istore dX3_readNumber_57 (by decide) (L' := [(4, .int 0), (0, .ref (ad k0)), (1, .int v1), (2, .int v2), (3, .int v3_3)]) rfl ?_
  refine G_sub [1, 3, 0] rfl ?_
  refine w_Pa_readNumber_L59 X ad k0 hk0 v2 _ (fun M8 => ?_) _ _
  refine G_iconst (v := 1) dX3_readNumber_105 rfl ?_
  exact G_zreturn rfl rfl dX3_readNumber_106 rfl
  refine G_iconst (v := 0) dX3_readNumber_54 rfl ?_
  exact G_zreturn rfl rfl dX3_readNumber_55 rfl

set_option maxRecDepth 100000 in
set_option maxHeartbeats 4000000 in
theorem m_SP_parting (v1 : Int32) (M : Mem) : MC mi_SP_parting (φIM) (fun ad => [.ref (ad 0), .int v1]) M (SP_parting v1 M) := by
  refine MC_of rfl (by decide +kernel) (fun ad => [(0, .ref (ad 0)), (1, .int v1)]) (fun _ => rfl) (fun _ => Nat.le_of_ble_eq_true rfl) (fun X ad => ?_)
  show G X ad mi_SP_parting (φIM) 0 [(0, .ref (ad 0)), (1, .int v1)] [] M _
  unfold SP_parting
  refine G_aload_n dX9_parting_0 0 rfl ?_
  refine G_getR hclX9 (by decide) rfl 8 (by decide) rfl wd_315 dX9_parting_1 ?_
  refine G_iload_n dX9_parting_4 1 rfl ?_
  refine G_aload_n dX9_parting_5 0 rfl ?_
  refine G_getR hclX9 (by decide) rfl 0 (by decide) rfl wd_307 dX9_parting_6 ?_
  refine G_getIN hclX7 (by decide) rfl 2 (by decide) rfl wn_147 dX9_parting_9 ?_
  refine G_callVN_IM (m_Pa_readNumber 26 isP_26 _ _ M) cal_Pa_readNumber ⟨Nat.le_of_ble_eq_true rfl, Nat.le_of_ble_eq_true rfl⟩ wn_501 hclX3 (by decide) rfl [.int v1, .int (M 1 2)] rfl rfl rfl (Nat.le_of_ble_eq_true rfl) dX9_parting_12 (fun r_1 M1 => ?_)
  refine G_if_ne 24 dX9_parting_15 (by decide) (fun _ => ?_) (fun _ => ?_)
  refine G_aload_n dX9_parting_18 0 rfl ?_
  refine G_iconst (v := -1) dX9_parting_19 rfl ?_
  refine G_callV_IM (m_SP_refuse _ M1) cal_SP_refuse ⟨Nat.le_of_ble_eq_true rfl, Nat.le_of_ble_eq_true rfl⟩ wd_351 hclX9 (by decide) rfl [.int (-1)] rfl rfl rfl (Nat.le_of_ble_eq_true rfl) dX9_parting_20 (fun r_2 M2 => ?_)
  exact G_ireturn rfl rfl dX9_parting_23 rfl
  refine G_aload_n dX9_parting_24 0 rfl ?_
  refine G_getR hclX9 (by decide) rfl 8 (by decide) rfl wd_315 dX9_parting_25 ?_
  refine G_getIN hclX3 (by decide) rfl 2 (by decide) rfl wn_292 dX9_parting_28 ?_
  exact G_ireturn rfl rfl dX9_parting_31 rfl

set_option maxRecDepth 100000 in
set_option maxHeartbeats 4000000 in
theorem m_SP_isSameness (v0 : Int32) (M : Mem) : MC mi_SP_isSameness (φI M) (fun ad => [.int v0]) M (SP_isSameness v0) := by
  refine MC_of rfl (by decide +kernel) (fun ad => [(0, .int v0)]) (fun _ => rfl) (fun _ => Nat.le_of_ble_eq_true rfl) (fun X ad => ?_)
  show G X ad mi_SP_isSameness (φI M) 0 [(0, .int v0)] [] M _
  unfold SP_isSameness
  refine G_iload_n dX9_isSameness_0 0 rfl ?_
  refine G_if_lt 13 dX9_isSameness_1 (by decide) (fun _ => ?_) (fun _ => ?_)
  refine G_iconst (v := 0) dX9_isSameness_13 rfl ?_
  exact G_zreturn rfl rfl dX9_isSameness_14 rfl
  refine G_iload_n dX9_isSameness_4 0 rfl ?_
  refine G_iconst (v := 5) dX9_isSameness_5 rfl ?_
  refine G_icmp_ge 13 dX9_isSameness_6 (by decide) (fun _ => ?_) (fun _ => ?_)
  refine G_iconst (v := 0) dX9_isSameness_13 rfl ?_
  exact G_zreturn rfl rfl dX9_isSameness_14 rfl
  refine G_iconst (v := 1) dX9_isSameness_9 rfl ?_
  refine G_goto 14 dX9_isSameness_10 (by decide) ?_
  exact G_zreturn rfl rfl dX9_isSameness_14 rfl

set_option maxRecDepth 100000 in
set_option maxHeartbeats 4000000 in
theorem m_Pa_together (k0 : Nat) (hk0 : isP k0) (v1 : Int32) (v2 : Int32) (M : Mem) : MC mi_Pa_together (φI M) (fun ad => [.ref (ad k0), .int v1, .int v2]) M (Pa_together k0 v1 v2 M) := by
  refine MC_of rfl (by decide +kernel) (fun ad => [(0, .ref (ad k0)), (1, .int v1), (2, .int v2)]) (fun _ => rfl) (fun _ => Nat.le_of_ble_eq_true rfl) (fun X ad => ?_)
  show G X ad mi_Pa_together (φI M) 0 [(0, .ref (ad k0)), (1, .int v1), (2, .int v2)] [] M _
  unfold Pa_together
  refine G_aload_n dX3_together_0 0 rfl ?_
  refine G_iload_n dX3_together_1 1 rfl ?_
  refine G_callV_I (m_Pa_of k0 hk0 _ M) cal_Pa_of ⟨Nat.le_of_ble_eq_true rfl, Nat.le_of_ble_eq_true rfl⟩ wd_506 hclX3 (Nat.lt_of_succ_lt hk0.1) hk0.2.1 [.int v1] rfl rfl rfl (Nat.le_of_ble_eq_true rfl) dX3_together_2 (fun r_1 => ?_)
  refine G_aload_n dX3_together_5 0 rfl ?_
  refine G_iload_n dX3_together_6 2 rfl ?_
  refine G_callV_I (m_Pa_of k0 hk0 _ M) cal_Pa_of ⟨Nat.le_of_ble_eq_true rfl, Nat.le_of_ble_eq_true rfl⟩ wd_506 hclX3 (Nat.lt_of_succ_lt hk0.1) hk0.2.1 [.int v2] rfl rfl rfl (Nat.le_of_ble_eq_true rfl) dX3_together_7 (fun r_2 => ?_)
  refine G_icmp_ne 17 dX3_together_10 (by decide) (fun _ => ?_) (fun _ => ?_)
  refine G_iconst (v := 1) dX3_together_13 rfl ?_
  refine G_goto 18 dX3_together_14 (by decide) ?_
  exact G_zreturn rfl rfl dX3_together_18 rfl
  refine G_iconst (v := 0) dX3_together_17 rfl ?_
  exact G_zreturn rfl rfl dX3_together_18 rfl

set_option maxRecDepth 100000 in
set_option maxHeartbeats 4000000 in
theorem w_Sa_sameView_L2 (X : Cx) (ad : Nat → Nat) (v1_1 : Int32) (v2_1 : Int32) (M : Mem) (kx : Option Int32) (hkx : G X ad mi_Sa_sameView (φI M) 45 [] [] M (kx)) : ∀ (n : Nat) (s : Int32), G X ad mi_Sa_sameView (φI M) 2 [(0, .ref (ad 14)), (1, .int v1_1), (2, .int v2_1), (3, .int s)] [] M (LOOP (fun aq sq => Sa_sameView_L2 v1_1 v2_1 M kx aq sq) n s) := by
  refine LOOP_rule (fun (s : Int32) o => G X ad mi_Sa_sameView (φI M) 2 [(0, .ref (ad 14)), (1, .int v1_1), (2, .int v2_1), (3, .int s)] [] M o) (fun _ => G_none) (fun ag hag v3_1 => ?_)
  show G X ad mi_Sa_sameView (φI M) 2 [(0, .ref (ad 14)), (1, .int v1_1), (2, .int v2_1), (3, .int v3_1)] [] M (Sa_sameView_L2 v1_1 v2_1 M kx ag v3_1)
  unfold Sa_sameView_L2
  refine G_iload_n dX4_sameView_2 3 rfl ?_
  refine G_bipush (v := 6) dX4_sameView_3 rfl ?_
  refine G_icmp_ge 45 dX4_sameView_5 (by decide) (fun _ => ?_) (fun _ => ?_)
  refine G_sub [] rfl ?_
  exact hkx
  refine G_aload_n dX4_sameView_8 0 rfl ?_
  refine G_getR hclX4 (by decide) rfl 0 (by decide) rfl wd_226 dX4_sameView_9 ?_
  refine G_iload_n dX4_sameView_12 1 rfl ?_
  refine G_bipush (v := 6) dX4_sameView_13 rfl ?_
  refine G_imul dX4_sameView_15 ?_
  refine G_iload_n dX4_sameView_16 3 rfl ?_
  refine G_iadd dX4_sameView_17 ?_
  refine G_callSN_I (m_SP_at 15 isA_15 _ M) cal_SP_at ⟨Nat.le_of_ble_eq_true rfl, Nat.le_of_ble_eq_true rfl⟩ wn_536 rfl rfl (Nat.le_of_ble_eq_true rfl) dX4_sameView_18 (fun r_1 => ?_)
  refine G_aload_n dX4_sameView_21 0 rfl ?_
  refine G_getR hclX4 (by decide) rfl 0 (by decide) rfl wd_226 dX4_sameView_22 ?_
  refine G_iload_n dX4_sameView_25 2 rfl ?_
  refine G_bipush (v := 6) dX4_sameView_26 rfl ?_
  refine G_imul dX4_sameView_28 ?_
  refine G_iload_n dX4_sameView_29 3 rfl ?_
  refine G_iadd dX4_sameView_30 ?_
  refine G_callSN_I (m_SP_at 15 isA_15 _ M) cal_SP_at ⟨Nat.le_of_ble_eq_true rfl, Nat.le_of_ble_eq_true rfl⟩ wn_536 rfl rfl (Nat.le_of_ble_eq_true rfl) dX4_sameView_31 (fun r_2 => ?_)
  refine G_icmp_eq 39 dX4_sameView_34 (by decide) (fun _ => ?_) (fun _ => ?_)
  refine G_iinc (v3_1 + 1) dX4_sameView_39 3 rfl rfl (by decide) (L' := [(3, .int (v3_1 + 1)), (0, .ref (ad 14)), (1, .int v1_1), (2, .int v2_1)]) rfl ?_
  refine G_goto 2 dX4_sameView_42 (by decide) ?_
  refine G_sub [1, 2, 3, 0] rfl ?_
  exact hag (v3_1 + 1)
  refine G_iconst (v := 0) dX4_sameView_37 rfl ?_
  exact G_zreturn rfl rfl dX4_sameView_38 rfl

set_option maxRecDepth 100000 in
set_option maxHeartbeats 4000000 in
theorem m_Sa_sameView (v1 : Int32) (v2 : Int32) (M : Mem) : MC mi_Sa_sameView (φI M) (fun ad => [.ref (ad 14), .int v1, .int v2]) M (Sa_sameView v1 v2 M) := by
  refine MC_of rfl (by decide +kernel) (fun ad => [(0, .ref (ad 14)), (1, .int v1), (2, .int v2)]) (fun _ => rfl) (fun _ => Nat.le_of_ble_eq_true rfl) (fun X ad => ?_)
  show G X ad mi_Sa_sameView (φI M) 0 [(0, .ref (ad 14)), (1, .int v1), (2, .int v2)] [] M _
  unfold Sa_sameView
  refine G_iconst (v := 0) dX4_sameView_0 rfl ?_
  refine G_istore_n 3 rfl dX4_sameView_1 (by decide) (L' := [(3, .int 0), (0, .ref (ad 14)), (1, .int v1), (2, .int v2)]) rfl ?_
  refine G_sub [1, 2, 3, 0] rfl ?_
  refine w_Sa_sameView_L2 X ad v1 v2 M _ ?_ _ _
  refine G_iconst (v := 1) dX4_sameView_45 rfl ?_
  exact G_zreturn rfl rfl dX4_sameView_46 rfl

