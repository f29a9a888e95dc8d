/-! printed by wip/whole/gen.py: the bytecode does what the functions say -/
set_option maxRecDepth 100000 in
set_option maxHeartbeats 4000000 in
theorem w_MD_opens_L16 (X : Cx) (ad : Nat → Nat) (k2 : Nat) (hk2 : isA k2) (kx : Int32 → Mem → Option (Int32 × Mem)) (hkx : ∀ (e3 : Int32) (Me : Mem), G X ad mi_MD_opens (φIM) 40 [(0, .ref (ad 33)), (2, .ref (ad k2)), (3, .int e3)] [] Me (kx e3 Me)) : ∀ (n : Nat) (s : Int32 × Int32 × Mem), G X ad mi_MD_opens (φIM) 16 [(0, .ref (ad 33)), (2, .ref (ad k2)), (3, .int s.1), (4, .int s.2.1)] [] s.2.2 (LOOP (fun aq sq => MD_opens_L16 k2 kx aq sq.1 sq.2.1 sq.2.2) n s) := by
  refine LOOP_rule (fun (s : Int32 × Int32 × Mem) o => G X ad mi_MD_opens (φIM) 16 [(0, .ref (ad 33)), (2, .ref (ad k2)), (3, .int s.1), (4, .int s.2.1)] [] s.2.2 o) (fun _ => G_none) (fun ag hag s => ?_)
  obtain ⟨v3_1, v4_2, M1⟩ := s
  show G X ad mi_MD_opens (φIM) 16 [(0, .ref (ad 33)), (2, .ref (ad k2)), (3, .int v3_1), (4, .int v4_2)] [] M1 (MD_opens_L16 k2 kx ag v3_1 v4_2 M1)
  unfold MD_opens_L16
  refine G_iload dX10_opens_16 3 rfl ?_
  refine G_if_lt 40 dX10_opens_18 (by decide) (fun _ => ?_) (fun _ => ?_)
  refine G_sub [0, 1, 2] rfl ?_
  exact hkx v3_1 M1
  refine G_aload_n dX10_opens_21 1 rfl ?_
  refine G_iload dX10_opens_22 3 rfl ?_
  refine G_iload_n dX10_opens_24 2 rfl ?_
  refine G_bipush (v := 10) dX10_opens_25 rfl ?_
  refine G_irem dX10_opens_27 (by decide) ?_
  refine G_iast hk2.1 hk2.2 dX10_opens_28 (fun M2 => ?_)
  refine G_iload_n dX10_opens_29 2 rfl ?_
  refine G_bipush (v := 10) dX10_opens_30 rfl ?_
  refine G_idiv dX10_opens_32 (by decide) ?_
  refine G_nmI (fun v3_2 => ?_)
  refine G_istore_n 3 rfl dX10_opens_33 (by decide) (L' := [(3, .int v3_2), (0, .ref (ad 33)), (2, .ref (ad k2)), (4, .int v4_2)]) rfl ?_
  refine G_iinc (v4_2 + (-1)) dX10_opens_34 3 rfl rfl (by decide) (L' := [(4, .int (v4_2 + (-1))), (3, .int v3_2), (0, .ref (ad 33)), (2, .ref (ad k2))]) rfl ?_
  refine G_goto 16 dX10_opens_37 (by decide) ?_
  refine G_sub [2, 3, 1, 0] rfl ?_
  exact hag (v3_2, v4_2 + (-1), M2)

set_option maxRecDepth 100000 in
set_option maxHeartbeats 4000000 in
theorem w_MD_opens_L52 (X : Cx) (ad : Nat → Nat) (k2 : Nat) (hk2 : isA k2) (M3 : Mem) (kx : Int32 → Option (Int32 × Mem)) (hkx : ∀ (e4 : Int32), G X ad mi_MD_opens (φIM) 90 [(4, .int e4)] [] M3 (kx e4)) : ∀ (n : Nat) (s : Int32 × Int32), G X ad mi_MD_opens (φIM) 52 [(0, .ref (ad 33)), (2, .ref (ad k2)), (4, .int s.1), (5, .int s.2)] [] M3 (LOOP (fun aq sq => MD_opens_L52 k2 M3 kx aq sq.1 sq.2) n s) := by
  refine LOOP_rule (fun (s : Int32 × Int32) o => G X ad mi_MD_opens (φIM) 52 [(0, .ref (ad 33)), (2, .ref (ad k2)), (4, .int s.1), (5, .int s.2)] [] M3 o) (fun _ => G_none) (fun ag hag s => ?_)
  obtain ⟨v4_3, v5_1⟩ := s
  show G X ad mi_MD_opens (φIM) 52 [(0, .ref (ad 33)), (2, .ref (ad k2)), (4, .int v4_3), (5, .int v5_1)] [] M3 (MD_opens_L52 k2 M3 kx ag v4_3 v5_1)
  unfold MD_opens_L52
  refine G_iload dX10_opens_52 3 rfl ?_
  refine G_aload_n dX10_opens_54 0 rfl ?_
  refine G_getI hclX10 (by decide) rfl 8 (by decide) rfl wd_904 dX10_opens_55 ?_
  refine G_icmp_ge 90 dX10_opens_58 (by decide) (fun _ => ?_) (fun _ => ?_)
  refine G_sub [2] rfl ?_
  exact hkx v4_3
  refine G_aload_n dX10_opens_61 1 rfl ?_
  refine G_iload dX10_opens_62 3 rfl ?_
  refine G_iald hk2.1 hk2.2 dX10_opens_64 ?_
  refine G_iload dX10_opens_65 2 rfl ?_
  refine G_icmp_le 72 dX10_opens_67 (by decide) (fun _ => ?_) (fun _ => ?_)
  refine G_aload_n dX10_opens_72 1 rfl ?_
  refine G_iload dX10_opens_73 3 rfl ?_
  refine G_iald hk2.1 hk2.2 dX10_opens_75 ?_
  refine G_iload dX10_opens_76 2 rfl ?_
  refine G_icmp_ne 84 dX10_opens_78 (by decide) (fun _ => ?_) (fun _ => ?_)
  refine G_iinc (v4_3 + 1) dX10_opens_81 2 rfl rfl (by decide) (L' := [(4, .int (v4_3 + 1)), (0, .ref (ad 33)), (2, .ref (ad k2)), (5, .int v5_1)]) rfl ?_
  refine G_iinc (v5_1 + 1) dX10_opens_84 3 rfl rfl (by decide) (L' := [(5, .int (v5_1 + 1)), (4, .int (v4_3 + 1)), (0, .ref (ad 33)), (2, .ref (ad k2))]) rfl ?_
  refine G_goto 52 dX10_opens_87 (by decide) ?_
  refine G_sub [2, 3, 1, 0] rfl ?_
  exact hag (v4_3 + 1, v5_1 + 1)
  refine G_iinc (v5_1 + 1) dX10_opens_84 3 rfl rfl (by decide) (L' := [(5, .int (v5_1 + 1)), (0, .ref (ad 33)), (2, .ref (ad k2)), (4, .int v4_3)]) rfl ?_
  refine G_goto 52 dX10_opens_87 (by decide) ?_
  refine G_sub [1, 2, 3, 0] rfl ?_
  exact hag (v4_3, v5_1 + 1)
  refine G_iconst (v := -1) dX10_opens_70 rfl ?_
  exact G_ireturn rfl rfl dX10_opens_71 rfl

set_option maxRecDepth 100000 in
set_option maxHeartbeats 4000000 in
theorem m_MD_opens (v1 : Int32) (k2 : Nat) (hk2 : isA k2) (M : Mem) : MC mi_MD_opens (φIM) (fun ad => [.ref (ad 33), .int v1, .ref (ad k2)]) M (MD_opens v1 k2 M) := by
  refine MC_of rfl (by decide +kernel) (fun ad => [(0, .ref (ad 33)), (1, .int v1), (2, .ref (ad k2))]) (fun _ => rfl) (fun _ => Nat.le_of_ble_eq_true rfl) (fun X ad => ?_)
  show G X ad mi_MD_opens (φIM) 0 [(0, .ref (ad 33)), (1, .int v1), (2, .ref (ad k2))] [] M _
  unfold MD_opens
  refine G_iload_n dX10_opens_0 1 rfl ?_
  refine G_if_ge 6 dX10_opens_1 (by decide) (fun _ => ?_) (fun _ => ?_)
  refine G_iload_n dX10_opens_6 1 rfl ?_
  refine G_istore_n 3 rfl dX10_opens_7 (by decide) (L' := [(3, .int v1), (0, .ref (ad 33)), (1, .int v1), (2, .ref (ad k2))]) rfl ?_
  refine G_aload_n dX10_opens_8 1 rfl ?_
  refine G_getI hclX10 (by decide) rfl 8 (by decide) rfl wd_904 dX10_opens_9 ?_
  refine G_iconst (v := 1) dX10_opens_12 rfl ?_
  refine G_isub dX10_opens_13 ?_
  refine G_nmI (fun v4_1 => ?_)
  refine G_istore dX10_opens_14 (by decide) (L' := [(4, .int v4_1), (3, .int v1), (0, .ref (ad 33)), (1, .int v1), (2, .ref (ad k2))]) rfl ?_
  refine G_sub [2, 4, 1, 0] rfl ?_
  refine w_MD_opens_L16 X ad k2 hk2 _ (fun v3_3 M3 => ?_) _ _
  refine G_iload_n dX10_opens_40 2 rfl ?_
  refine G_if_eq 46 dX10_opens_41 (by decide) (fun _ => ?_) (fun _ => ?_)
  refine G_iconst (v := 0) dX10_opens_46 rfl ?_
  refine G_istore dX10_opens_47 (by decide) (L' := [(4, .int 0), (0, .ref (ad 33)), (2, .ref (ad k2)), (3, .int v3_3)]) rfl ?_
  refine G_iconst (v := 0) dX10_opens_49 rfl ?_
  refine G_istore dX10_opens_50 (by decide) (L' := [(5, .int 0), (4, .int 0), (0, .ref (ad 33)), (2, .ref (ad k2)), (3, .int v3_3)]) rfl ?_
  refine G_sub [2, 3, 1, 0] rfl ?_
  refine w_MD_opens_L52 X ad k2 hk2 M3 _ (fun v4_4 => ?_) _ _
  refine G_iload dX10_opens_90 0 rfl ?_
  exact G_ireturn rfl rfl dX10_opens_92 rfl
  refine G_iconst (v := -1) dX10_opens_44 rfl ?_
  exact G_ireturn rfl rfl dX10_opens_45 rfl
  refine G_iconst (v := -1) dX10_opens_4 rfl ?_
  exact G_ireturn rfl rfl dX10_opens_5 rfl

set_option maxRecDepth 100000 in
set_option maxHeartbeats 4000000 in
theorem w_MD_number_L26 (X : Cx) (ad : Nat → Nat) (k1 : Nat) (hk1 : isA k1) (v2_2 : Int32) (v3_2 : Int32) (v4_2 : Int32) (M1 : Mem) (kx : Int32 → Option (Int32 × Mem)) (hkx : ∀ (e5 : Int32), G X ad mi_MD_number (φIM) 57 [(0, .ref (ad 33)), (1, .ref (ad k1)), (2, .int v2_2), (3, .int v3_2), (4, .int v4_2), (5, .int e5)] [] M1 (kx e5)) : ∀ (n : Nat) (s : Int32 × Int32), G X ad mi_MD_number (φIM) 26 [(0, .ref (ad 33)), (1, .ref (ad k1)), (2, .int v2_2), (3, .int v3_2), (4, .int v4_2), (5, .int s.1), (6, .int s.2)] [] M1 (LOOP (fun aq sq => MD_number_L26 k1 v4_2 M1 kx aq sq.1 sq.2) n s) := by
  refine LOOP_rule (fun (s : Int32 × Int32) o => G X ad mi_MD_number (φIM) 26 [(0, .ref (ad 33)), (1, .ref (ad k1)), (2, .int v2_2), (3, .int v3_2), (4, .int v4_2), (5, .int s.1), (6, .int s.2)] [] M1 o) (fun _ => G_none) (fun ag hag s => ?_)
  obtain ⟨v5_1, v6_2⟩ := s
  show G X ad mi_MD_number (φIM) 26 [(0, .ref (ad 33)), (1, .ref (ad k1)), (2, .int v2_2), (3, .int v3_2), (4, .int v4_2), (5, .int v5_1), (6, .int v6_2)] [] M1 (MD_number_L26 k1 v4_2 M1 kx ag v5_1 v6_2)
  unfold MD_number_L26
  refine G_iload dX10_number_26 6 rfl ?_
  refine G_if_lt 57 dX10_number_28 (by decide) (fun _ => ?_) (fun _ => ?_)
  refine G_sub [0, 1, 2, 3, 4, 5] rfl ?_
  exact hkx v5_1
  refine G_aload_n dX10_number_31 1 rfl ?_
  refine G_iload dX10_number_32 6 rfl ?_
  refine G_iald hk1.1 hk1.2 dX10_number_34 ?_
  refine G_aload_n dX10_number_35 1 rfl ?_
  refine G_iload dX10_number_36 4 rfl ?_
  refine G_iald hk1.1 hk1.2 dX10_number_38 ?_
  refine G_icmp_ne 47 dX10_number_39 (by decide) (fun _ => ?_) (fun _ => ?_)
  refine G_iload dX10_number_42 6 rfl ?_
  refine G_goto 49 dX10_number_44 (by decide) ?_
  refine G_istore dX10_number_49 (by decide) (L' := [(5, .int v6_2), (0, .ref (ad 33)), (1, .ref (ad k1)), (2, .int v2_2), (3, .int v3_2), (4, .int v4_2), (6, .int v6_2)]) rfl ?_
  refine G_iinc (v6_2 + (-1)) dX10_number_51 6 rfl rfl (by decide) (L' := [(6, .int (v6_2 + (-1))), (5, .int v6_2), (0, .ref (ad 33)), (1, .ref (ad k1)), (2, .int v2_2), (3, .int v3_2), (4, .int v4_2)]) rfl ?_
  refine G_goto 26 dX10_number_54 (by decide) ?_
  refine G_sub [2, 3, 4, 5, 6, 1, 0] rfl ?_
  exact hag (v6_2, v6_2 + (-1))
  refine G_iload dX10_number_47 5 rfl ?_
  refine G_istore dX10_number_49 (by decide) (L' := [(5, .int v5_1), (0, .ref (ad 33)), (1, .ref (ad k1)), (2, .int v2_2), (3, .int v3_2), (4, .int v4_2), (6, .int v6_2)]) rfl ?_
  refine G_iinc (v6_2 + (-1)) dX10_number_51 6 rfl rfl (by decide) (L' := [(6, .int (v6_2 + (-1))), (5, .int v5_1), (0, .ref (ad 33)), (1, .ref (ad k1)), (2, .int v2_2), (3, .int v3_2), (4, .int v4_2)]) rfl ?_
  refine G_goto 26 dX10_number_54 (by decide) ?_
  refine G_sub [2, 3, 4, 5, 6, 1, 0] rfl ?_
  exact hag (v5_1, v6_2 + (-1))

set_option maxRecDepth 100000 in
set_option maxHeartbeats 4000000 in
theorem w_MD_number_L7 (X : Cx) (ad : Nat → Nat) (k1 : Nat) (hk1 : isA k1) (kx : Int32 → Mem → Option (Int32 × Mem)) (hkx : ∀ (e2 : Int32) (Me : Mem), G X ad mi_MD_number (φIM) 111 [(2, .int e2)] [] Me (kx e2 Me)) : ∀ (n : Nat) (s : Int32 × Int32 × Int32 × Mem), G X ad mi_MD_number (φIM) 7 [(0, .ref (ad 33)), (1, .ref (ad k1)), (2, .int s.1), (3, .int s.2.1), (4, .int s.2.2.1)] [] s.2.2.2 (LOOP (fun aq sq => MD_number_L7 k1 kx aq sq.1 sq.2.1 sq.2.2.1 sq.2.2.2) n s) := by
  refine LOOP_rule (fun (s : Int32 × Int32 × Int32 × Mem) o => G X ad mi_MD_number (φIM) 7 [(0, .ref (ad 33)), (1, .ref (ad k1)), (2, .int s.1), (3, .int s.2.1), (4, .int s.2.2.1)] [] s.2.2.2 o) (fun _ => G_none) (fun ag hag s => ?_)
  obtain ⟨v2_1, v3_1, v4_1, M1⟩ := s
  show G X ad mi_MD_number (φIM) 7 [(0, .ref (ad 33)), (1, .ref (ad k1)), (2, .int v2_1), (3, .int v3_1), (4, .int v4_1)] [] M1 (MD_number_L7 k1 kx ag v2_1 v3_1 v4_1 M1)
  unfold MD_number_L7
  refine G_iload dX10_number_7 4 rfl ?_
  refine G_aload_n dX10_number_9 0 rfl ?_
  refine G_getI hclX10 (by decide) rfl 8 (by decide) rfl wd_904 dX10_number_10 ?_
  refine G_icmp_ge 111 dX10_number_13 (by decide) (fun _ => ?_) (fun _ => ?_)
  refine G_sub [2] rfl ?_
  exact hkx v2_1 M1
  refine G_iload dX10_number_16 4 rfl ?_
  refine G_istore dX10_number_18 (by decide) (L' := [(5, .int v4_1), (0, .ref (ad 33)), (1, .ref (ad k1)), (2, .int v2_1), (3, .int v3_1), (4, .int v4_1)]) rfl ?_
  refine G_iload dX10_number_20 5 rfl ?_
  refine G_iconst (v := 1) dX10_number_22 rfl ?_
  refine G_isub dX10_number_23 ?_
  refine G_nmI (fun v6_1 => ?_)
  refine G_istore dX10_number_24 (by decide) (L' := [(6, .int v6_1), (5, .int v4_1), (0, .ref (ad 33)), (1, .ref (ad k1)), (2, .int v2_1), (3, .int v3_1), (4, .int v4_1)]) rfl ?_
  refine G_sub [2, 3, 4, 5, 6, 1, 0] rfl ?_
  refine w_MD_number_L26 X ad k1 hk1 v2_1 v3_1 v4_1 M1 _ (fun v5_2 => ?_) _ _
  refine G_iload dX10_number_57 5 rfl ?_
  refine G_iload dX10_number_59 4 rfl ?_
  refine G_jp (fun kq => ∀ (v3_3 : Int32) (M2 : Mem), G X ad mi_MD_number (φIM) 92 [(0, .ref (ad 33)), (1, .ref (ad k1)), (2, .int v2_1), (3, .int v3_3), (4, .int v4_1)] [] M2 (kq v3_3 M2)) (fun v3_3 M2 => ?_) (fun k_1 hk_1 => ?_)
  refine G_bipush (v := 10) dX10_number_92 rfl ?_
  refine G_iload_n dX10_number_94 2 rfl ?_
  refine G_imul dX10_number_95 ?_
  refine G_aload_n dX10_number_96 0 rfl ?_
  refine G_getR hclX10 (by decide) rfl 25 (by decide) rfl wd_921 dX10_number_97 ?_
  refine G_iload dX10_number_100 4 rfl ?_
  refine G_iald (by decide) rfl dX10_number_102 ?_
  refine G_iadd dX10_number_103 ?_
  refine G_nmI (fun v2_3 => ?_)
  refine G_istore_n 2 rfl dX10_number_104 (by decide) (L' := [(2, .int v2_3), (0, .ref (ad 33)), (1, .ref (ad k1)), (3, .int v3_3), (4, .int v4_1)]) rfl ?_
  refine G_iinc (v4_1 + 1) dX10_number_105 4 rfl rfl (by decide) (L' := [(4, .int (v4_1 + 1)), (2, .int v2_3), (0, .ref (ad 33)), (1, .ref (ad k1)), (3, .int v3_3)]) rfl ?_
  refine G_goto 7 dX10_number_108 (by decide) ?_
  refine G_sub [2, 3, 1, 4, 0] rfl ?_
  exact hag (v2_3, v3_3, v4_1 + 1, M2)
  refine G_icmp_ne 78 dX10_number_61 (by decide) (fun _ => ?_) (fun _ => ?_)
  refine G_aload_n dX10_number_64 0 rfl ?_
  refine G_getR hclX10 (by decide) rfl 25 (by decide) rfl wd_921 dX10_number_65 ?_
  refine G_iload dX10_number_68 4 rfl ?_
  refine G_iload_n dX10_number_70 3 rfl ?_
  refine G_iast (by decide) rfl dX10_number_71 (fun M3 => ?_)
  refine G_iinc (v3_1 + 1) dX10_number_72 3 rfl rfl (by decide) (L' := [(3, .int (v3_1 + 1)), (0, .ref (ad 33)), (1, .ref (ad k1)), (2, .int v2_1), (4, .int v4_1), (5, .int v5_2)]) rfl ?_
  refine G_goto 92 dX10_number_75 (by decide) ?_
  refine G_sub [1, 2, 3, 0, 4] rfl ?_
  exact hk_1 (v3_1 + 1) M3
  refine G_aload_n dX10_number_78 0 rfl ?_
  refine G_getR hclX10 (by decide) rfl 25 (by decide) rfl wd_921 dX10_number_79 ?_
  refine G_iload dX10_number_82 4 rfl ?_
  refine G_aload_n dX10_number_84 0 rfl ?_
  refine G_getR hclX10 (by decide) rfl 25 (by decide) rfl wd_921 dX10_number_85 ?_
  refine G_iload dX10_number_88 5 rfl ?_
  refine G_iald (by decide) rfl dX10_number_90 ?_
  refine G_iast (by decide) rfl dX10_number_91 (fun M4 => ?_)
  refine G_sub [0, 1, 2, 3, 4] rfl ?_
  exact hk_1 v3_1 M4

set_option maxRecDepth 100000 in
set_option maxHeartbeats 4000000 in
theorem m_MD_number (k1 : Nat) (hk1 : isA k1) (M : Mem) : MC mi_MD_number (φIM) (fun ad => [.ref (ad 33), .ref (ad k1)]) M (MD_number k1 M) := by
  refine MC_of rfl (by decide +kernel) (fun ad => [(0, .ref (ad 33)), (1, .ref (ad k1))]) (fun _ => rfl) (fun _ => Nat.le_of_ble_eq_true rfl) (fun X ad => ?_)
  show G X ad mi_MD_number (φIM) 0 [(0, .ref (ad 33)), (1, .ref (ad k1))] [] M _
  unfold MD_number
  refine G_iconst (v := 0) dX10_number_0 rfl ?_
  refine G_istore_n 2 rfl dX10_number_1 (by decide) (L' := [(2, .int 0), (0, .ref (ad 33)), (1, .ref (ad k1))]) rfl ?_
  refine G_iconst (v := 0) dX10_number_2 rfl ?_
  refine G_istore_n 3 rfl dX10_number_3 (by decide) (L' := [(3, .int 0), (2, .int 0), (0, .ref (ad 33)), (1, .ref (ad k1))]) rfl ?_
  refine G_iconst (v := 0) dX10_number_4 rfl ?_
  refine G_istore dX10_number_5 (by decide) (L' := [(4, .int 0), (3, .int 0), (2, .int 0), (0, .ref (ad 33)), (1, .ref (ad k1))]) rfl ?_
  refine G_sub [3, 4, 2, 1, 0] rfl ?_
  refine w_MD_number_L7 X ad k1 hk1 _ (fun v2_4 M5 => ?_) _ _
  refine G_iload_n dX10_number_111 0 rfl ?_
  exact G_ireturn rfl rfl dX10_number_112 rfl

set_option maxRecDepth 100000 in
set_option maxHeartbeats 4000000 in
theorem m_MD_parting (v1 : Int32) (M : Mem) : MC mi_MD_parting (φIM) (fun ad => [.ref (ad 33), .int v1]) M (MD_parting v1 M) := by
  refine MC_of rfl (by decide +kernel) (fun ad => [(0, .ref (ad 33)), (1, .int v1)]) (fun _ => rfl) (fun _ => Nat.le_of_ble_eq_true rfl) (fun X ad => ?_)
  show G X ad mi_MD_parting (φIM) 0 [(0, .ref (ad 33)), (1, .int v1)] [] M _
  unfold MD_parting
  refine G_aload_n dX10_parting_0 0 rfl ?_
  refine G_iload_n dX10_parting_1 1 rfl ?_
  refine G_aload_n dX10_parting_2 0 rfl ?_
  refine G_getR hclX10 (by decide) rfl 22 (by decide) rfl wd_918 dX10_parting_3 ?_
  refine G_callV_IM (m_MD_opens _ 50 isA_50 M) cal_MD_opens ⟨Nat.le_of_ble_eq_true rfl, Nat.le_of_ble_eq_true rfl⟩ wd_1096 hclX10 (by decide) rfl [.int v1, .ref (ad 50)] rfl rfl rfl (Nat.le_of_ble_eq_true rfl) dX10_parting_6 (fun r_1 M1 => ?_)
  refine G_istore_n 2 rfl dX10_parting_9 (by decide) (L' := [(2, .int r_1), (0, .ref (ad 33)), (1, .int v1)]) rfl ?_
  refine G_iload_n dX10_parting_10 0 rfl ?_
  refine G_if_ge 22 dX10_parting_11 (by decide) (fun _ => ?_) (fun _ => ?_)
  refine G_iload_n dX10_parting_22 0 rfl ?_
  exact G_ireturn rfl rfl dX10_parting_23 rfl
  refine G_aload_n dX10_parting_14 1 rfl ?_
  refine G_iconst (v := -1) dX10_parting_15 rfl ?_
  refine G_callV_IM (m_MD_no _ M1) cal_MD_no ⟨Nat.le_of_ble_eq_true rfl, Nat.le_of_ble_eq_true rfl⟩ wd_1008 hclX10 (by decide) rfl [.int (-1)] rfl rfl rfl (Nat.le_of_ble_eq_true rfl) dX10_parting_16 (fun r_2 M2 => ?_)
  refine G_goto 23 dX10_parting_19 (by decide) ?_
  exact G_ireturn rfl rfl dX10_parting_23 rfl

set_option maxRecDepth 100000 in
set_option maxHeartbeats 4000000 in
theorem w_MD_led_L6 (X : Cx) (ad : Nat → Nat) (v1_1 : Int32) (v2_1 : Int32) (v3_1 : Int32) (v4_1 : Int32) (M : Mem) (kx : Int32 → Option Int32) (hkx : ∀ (e5 : Int32), G X ad mi_MD_led (φI M) 72 [(5, .int e5)] [] M (kx e5)) : ∀ (n : Nat) (s : Int32 × Int32), G X ad mi_MD_led (φI M) 6 [(0, .ref (ad 33)), (1, .int v1_1), (2, .int v2_1), (3, .int v3_1), (4, .int v4_1), (5, .int s.1), (6, .int s.2)] [] M (LOOP (fun aq sq => MD_led_L6 v1_1 v2_1 v3_1 v4_1 M kx aq sq.1 sq.2) n s) := by
  refine LOOP_rule (fun (s : Int32 × Int32) o => G X ad mi_MD_led (φI M) 6 [(0, .ref (ad 33)), (1, .int v1_1), (2, .int v2_1), (3, .int v3_1), (4, .int v4_1), (5, .int s.1), (6, .int s.2)] [] M o) (fun _ => G_none) (fun ag hag s => ?_)
  obtain ⟨v5_1, v6_1⟩ := s
  show G X ad mi_MD_led (φI M) 6 [(0, .ref (ad 33)), (1, .int v1_1), (2, .int v2_1), (3, .int v3_1), (4, .int v4_1), (5, .int v5_1), (6, .int v6_1)] [] M (MD_led_L6 v1_1 v2_1 v3_1 v4_1 M kx ag v5_1 v6_1)
  unfold MD_led_L6
  refine G_iload dX10_led_6 6 rfl ?_
  refine G_aload_n dX10_led_8 0 rfl ?_
  refine G_getI hclX10 (by decide) rfl 8 (by decide) rfl wd_904 dX10_led_9 ?_
  refine G_icmp_ge 72 dX10_led_12 (by decide) (fun _ => ?_) (fun _ => ?_)
  refine G_sub [5] rfl ?_
  exact hkx v5_1
  refine G_iload dX10_led_15 5 rfl ?_
  refine G_aload_n dX10_led_17 0 rfl ?_
  refine G_getR hclX10 (by decide) rfl 22 (by decide) rfl wd_918 dX10_led_18 ?_
  refine G_iload dX10_led_21 6 rfl ?_
  refine G_iald (by decide) rfl dX10_led_23 ?_
  refine G_iload_n dX10_led_24 3 rfl ?_
  refine G_icmp_ne 62 dX10_led_25 (by decide) (fun _ => ?_) (fun _ => ?_)
  refine G_iload dX10_led_28 4 rfl ?_
  refine G_if_eq 47 dX10_led_30 (by decide) (fun _ => ?_) (fun _ => ?_)
  refine G_aload_n dX10_led_47 0 rfl ?_
  refine G_iload_n dX10_led_48 1 rfl ?_
  refine G_iload_n dX10_led_49 2 rfl ?_
  refine G_iload dX10_led_50 6 rfl ?_
  refine G_callV_I (m_MD_has _ _ _ M) cal_MD_has ⟨Nat.le_of_ble_eq_true rfl, Nat.le_of_ble_eq_true rfl⟩ wd_1088 hclX10 (by decide) rfl [.int v1_1, .int v2_1, .int v6_1] rfl rfl rfl (Nat.le_of_ble_eq_true rfl) dX10_led_52 (fun r_1 => ?_)
  refine G_if_eq 62 dX10_led_55 (by decide) (fun _ => ?_) (fun _ => ?_)
  refine G_iconst (v := 0) dX10_led_62 rfl ?_
  refine G_iadd dX10_led_63 ?_
  refine G_nmI (fun v5_2 => ?_)
  refine G_istore dX10_led_64 (by decide) (L' := [(5, .int v5_2), (0, .ref (ad 33)), (1, .int v1_1), (2, .int v2_1), (3, .int v3_1), (4, .int v4_1), (6, .int v6_1)]) rfl ?_
  refine G_iinc (v6_1 + 1) dX10_led_66 6 rfl rfl (by decide) (L' := [(6, .int (v6_1 + 1)), (5, .int v5_2), (0, .ref (ad 33)), (1, .int v1_1), (2, .int v2_1), (3, .int v3_1), (4, .int v4_1)]) rfl ?_
  refine G_goto 6 dX10_led_69 (by decide) ?_
  refine G_sub [2, 3, 4, 5, 6, 1, 0] rfl ?_
  exact hag (v5_2, v6_1 + 1)
  refine G_iconst (v := 1) dX10_led_58 rfl ?_
  refine G_goto 63 dX10_led_59 (by decide) ?_
  refine G_iadd dX10_led_63 ?_
  refine G_nmI (fun v5_3 => ?_)
  refine G_istore dX10_led_64 (by decide) (L' := [(5, .int v5_3), (0, .ref (ad 33)), (1, .int v1_1), (2, .int v2_1), (3, .int v3_1), (4, .int v4_1), (6, .int v6_1)]) rfl ?_
  refine G_iinc (v6_1 + 1) dX10_led_66 6 rfl rfl (by decide) (L' := [(6, .int (v6_1 + 1)), (5, .int v5_3), (0, .ref (ad 33)), (1, .int v1_1), (2, .int v2_1), (3, .int v3_1), (4, .int v4_1)]) rfl ?_
  refine G_goto 6 dX10_led_69 (by decide) ?_
  refine G_sub [2, 3, 4, 5, 6, 1, 0] rfl ?_
  exact hag (v5_3, v6_1 + 1)
  refine G_aload_n dX10_led_33 0 rfl ?_
  refine G_iload_n dX10_led_34 1 rfl ?_
  refine G_iload dX10_led_35 6 rfl ?_
  refine G_iload_n dX10_led_37 2 rfl ?_
  refine G_callV_I (m_MD_has _ _ _ M) cal_MD_has ⟨Nat.le_of_ble_eq_true rfl, Nat.le_of_ble_eq_true rfl⟩ wd_1088 hclX10 (by decide) rfl [.int v1_1, .int v6_1, .int v2_1] rfl rfl rfl (Nat.le_of_ble_eq_true rfl) dX10_led_38 (fun r_2 => ?_)
  refine G_if_eq 62 dX10_led_41 (by decide) (fun _ => ?_) (fun _ => ?_)
  refine G_iconst (v := 0) dX10_led_62 rfl ?_
  refine G_iadd dX10_led_63 ?_
  refine G_nmI (fun v5_4 => ?_)
  refine G_istore dX10_led_64 (by decide) (L' := [(5, .int v5_4), (0, .ref (ad 33)), (1, .int v1_1), (2, .int v2_1), (3, .int v3_1), (4, .int v4_1), (6, .int v6_1)]) rfl ?_
  refine G_iinc (v6_1 + 1) dX10_led_66 6 rfl rfl (by decide) (L' := [(6, .int (v6_1 + 1)), (5, .int v5_4), (0, .ref (ad 33)), (1, .int v1_1), (2, .int v2_1), (3, .int v3_1), (4, .int v4_1)]) rfl ?_
  refine G_goto 6 dX10_led_69 (by decide) ?_
  refine G_sub [2, 3, 4, 5, 6, 1, 0] rfl ?_
  exact hag (v5_4, v6_1 + 1)
  refine G_goto 58 dX10_led_44 (by decide) ?_
  refine G_iconst (v := 1) dX10_led_58 rfl ?_
  refine G_goto 63 dX10_led_59 (by decide) ?_
  refine G_iadd dX10_led_63 ?_
  refine G_nmI (fun v5_5 => ?_)
  refine G_istore dX10_led_64 (by decide) (L' := [(5, .int v5_5), (0, .ref (ad 33)), (1, .int v1_1), (2, .int v2_1), (3, .int v3_1), (4, .int v4_1), (6, .int v6_1)]) rfl ?_
  refine G_iinc (v6_1 + 1) dX10_led_66 6 rfl rfl (by decide) (L' := [(6, .int (v6_1 + 1)), (5, .int v5_5), (0, .ref (ad 33)), (1, .int v1_1), (2, .int v2_1), (3, .int v3_1), (4, .int v4_1)]) rfl ?_
  refine G_goto 6 dX10_led_69 (by decide) ?_
  refine G_sub [2, 3, 4, 5, 6, 1, 0] rfl ?_
  exact hag (v5_5, v6_1 + 1)
  refine G_iconst (v := 0) dX10_led_62 rfl ?_
  refine G_iadd dX10_led_63 ?_
  refine G_nmI (fun v5_6 => ?_)
  refine G_istore dX10_led_64 (by decide) (L' := [(5, .int v5_6), (0, .ref (ad 33)), (1, .int v1_1), (2, .int v2_1), (3, .int v3_1), (4, .int v4_1), (6, .int v6_1)]) rfl ?_
  refine G_iinc (v6_1 + 1) dX10_led_66 6 rfl rfl (by decide) (L' := [(6, .int (v6_1 + 1)), (5, .int v5_6), (0, .ref (ad 33)), (1, .int v1_1), (2, .int v2_1), (3, .int v3_1), (4, .int v4_1)]) rfl ?_
  refine G_goto 6 dX10_led_69 (by decide) ?_
  refine G_sub [2, 3, 4, 5, 6, 1, 0] rfl ?_
  exact hag (v5_6, v6_1 + 1)

set_option maxRecDepth 100000 in
set_option maxHeartbeats 4000000 in
theorem m_MD_led (v1 : Int32) (v2 : Int32) (v3 : Int32) (v4 : Int32) (M : Mem) : MC mi_MD_led (φI M) (fun ad => [.ref (ad 33), .int v1, .int v2, .int v3, .int v4]) M (MD_led v1 v2 v3 v4 M) := by
  refine MC_of rfl (by decide +kernel) (fun ad => [(0, .ref (ad 33)), (1, .int v1), (2, .int v2), (3, .int v3), (4, .int v4)]) (fun _ => rfl) (fun _ => Nat.le_of_ble_eq_true rfl) (fun X ad => ?_)
  show G X ad mi_MD_led (φI M) 0 [(0, .ref (ad 33)), (1, .int v1), (2, .int v2), (3, .int v3), (4, .int v4)] [] M _
  unfold MD_led
  refine G_iconst (v := 0) dX10_led_0 rfl ?_
  refine G_istore dX10_led_1 (by decide) (L' := [(5, .int 0), (0, .ref (ad 33)), (1, .int v1), (2, .int v2), (3, .int v3), (4, .int v4)]) rfl ?_
  refine G_iconst (v := 0) dX10_led_3 rfl ?_
  refine G_istore dX10_led_4 (by decide) (L' := [(6, .int 0), (5, .int 0), (0, .ref (ad 33)), (1, .int v1), (2, .int v2), (3, .int v3), (4, .int v4)]) rfl ?_
  refine G_sub [2, 3, 4, 5, 6, 1, 0] rfl ?_
  refine w_MD_led_L6 X ad v1 v2 v3 v4 M _ (fun v5_7 => ?_) _ _
  refine G_iload dX10_led_72 0 rfl ?_
  exact G_ireturn rfl rfl dX10_led_74 rfl

set_option maxRecDepth 100000 in
set_option maxHeartbeats 4000000 in
theorem m_MD_seen (v0 : Int32) (v1 : Int32) (M : Mem) : MC mi_MD_seen (φI M) (fun ad => [.int v0, .int v1]) M (MD_seen v0 v1) := by
  refine MC_of rfl (by decide +kernel) (fun ad => [(0, .int v0), (1, .int v1)]) (fun _ => rfl) (fun _ => Nat.le_of_ble_eq_true rfl) (fun X ad => ?_)
  show G X ad mi_MD_seen (φI M) 0 [(0, .int v0), (1, .int v1)] [] M _
  unfold MD_seen
  refine G_iload_n dX10_seen_0 1 rfl ?_
  refine G_if_eq 8 dX10_seen_1 (by decide) (fun _ => ?_) (fun _ => ?_)
  refine G_iload_n dX10_seen_8 0 rfl ?_
  refine G_if_le 16 dX10_seen_9 (by decide) (fun _ => ?_) (fun _ => ?_)
  refine G_iconst (v := 0) dX10_seen_16 rfl ?_
  exact G_ireturn rfl rfl dX10_seen_17 rfl
  refine G_iconst (v := 1) dX10_seen_12 rfl ?_
  refine G_goto 17 dX10_seen_13 (by decide) ?_
  exact G_ireturn rfl rfl dX10_seen_17 rfl
  refine G_iload_n dX10_seen_4 0 rfl ?_
  refine G_goto 17 dX10_seen_5 (by decide) ?_
  exact G_ireturn rfl rfl dX10_seen_17 rfl

set_option maxRecDepth 100000 in
set_option maxHeartbeats 4000000 in
theorem w_MD_areLed_L12 (X : Cx) (ad : Nat → Nat) (v1_2 : Int32) (v2_2 : Int32) (v3_2 : Int32) (v4_2 : Int32) (M : Mem) (kx : Option Int32) (hkx : G X ad mi_MD_areLed (φI M) 91 [(0, .ref (ad 33)), (1, .int v1_2), (2, .int v2_2), (3, .int v3_2), (4, .int v4_2)] [] M (kx)) : ∀ (n : Nat) (s : Int32), G X ad mi_MD_areLed (φI M) 12 [(0, .ref (ad 33)), (1, .int v1_2), (2, .int v2_2), (3, .int v3_2), (4, .int v4_2), (5, .int s)] [] M (LOOP (fun aq sq => MD_areLed_L12 v1_2 v2_2 v3_2 v4_2 M kx aq sq) n s) := by
  refine LOOP_rule (fun (s : Int32) o => G X ad mi_MD_areLed (φI M) 12 [(0, .ref (ad 33)), (1, .int v1_2), (2, .int v2_2), (3, .int v3_2), (4, .int v4_2), (5, .int s)] [] M o) (fun _ => G_none) (fun ag hag v5_1 => ?_)
  show G X ad mi_MD_areLed (φI M) 12 [(0, .ref (ad 33)), (1, .int v1_2), (2, .int v2_2), (3, .int v3_2), (4, .int v4_2), (5, .int v5_1)] [] M (MD_areLed_L12 v1_2 v2_2 v3_2 v4_2 M kx ag v5_1)
  unfold MD_areLed_L12
  refine G_iload dX10_areLed_12 5 rfl ?_
  refine G_aload_n dX10_areLed_14 0 rfl ?_
  refine G_getI hclX10 (by decide) rfl 8 (by decide) rfl wd_904 dX10_areLed_15 ?_
  refine G_icmp_ge 91 dX10_areLed_18 (by decide) (fun _ => ?_) (fun _ => ?_)
  refine G_sub [0, 1, 2, 3, 4] rfl ?_
  exact hkx
  refine G_aload_n dX10_areLed_21 0 rfl ?_
  refine G_iload dX10_areLed_22 4 rfl ?_
  refine G_iload_n dX10_areLed_24 1 rfl ?_
  refine G_iload dX10_areLed_25 5 rfl ?_
  refine G_iconst (v := 0) dX10_areLed_27 rfl ?_
  refine G_callV_I (m_MD_led _ _ _ _ M) cal_MD_led ⟨Nat.le_of_ble_eq_true rfl, Nat.le_of_ble_eq_true rfl⟩ wd_1126 hclX10 (by decide) rfl [.int v4_2, .int v1_2, .int v5_1, .int 0] rfl rfl rfl (Nat.le_of_ble_eq_true rfl) dX10_areLed_28 (fun r_1 => ?_)
  refine G_iload_n dX10_areLed_31 3 rfl ?_
  refine G_callS_I (m_MD_seen _ _ M) cal_MD_seen ⟨Nat.le_of_ble_eq_true rfl, Nat.le_of_ble_eq_true rfl⟩ wd_1119 rfl rfl (Nat.le_of_ble_eq_true rfl) dX10_areLed_32 (fun r_2 => ?_)
  refine G_aload_n dX10_areLed_35 0 rfl ?_
  refine G_iload dX10_areLed_36 4 rfl ?_
  refine G_iload_n dX10_areLed_38 2 rfl ?_
  refine G_iload dX10_areLed_39 5 rfl ?_
  refine G_iconst (v := 0) dX10_areLed_41 rfl ?_
  refine G_callV_I (m_MD_led _ _ _ _ M) cal_MD_led ⟨Nat.le_of_ble_eq_true rfl, Nat.le_of_ble_eq_true rfl⟩ wd_1126 hclX10 (by decide) rfl [.int v4_2, .int v2_2, .int v5_1, .int 0] rfl rfl rfl (Nat.le_of_ble_eq_true rfl) dX10_areLed_42 (fun r_3 => ?_)
  refine G_iload_n dX10_areLed_45 3 rfl ?_
  refine G_callS_I (m_MD_seen _ _ M) cal_MD_seen ⟨Nat.le_of_ble_eq_true rfl, Nat.le_of_ble_eq_true rfl⟩ wd_1119 rfl rfl (Nat.le_of_ble_eq_true rfl) dX10_areLed_46 (fun r_4 => ?_)
  refine G_icmp_ne 83 dX10_areLed_49 (by decide) (fun _ => ?_) (fun _ => ?_)
  refine G_aload_n dX10_areLed_52 0 rfl ?_
  refine G_iload dX10_areLed_53 4 rfl ?_
  refine G_iload_n dX10_areLed_55 1 rfl ?_
  refine G_iload dX10_areLed_56 5 rfl ?_
  refine G_iconst (v := 1) dX10_areLed_58 rfl ?_
  refine G_callV_I (m_MD_led _ _ _ _ M) cal_MD_led ⟨Nat.le_of_ble_eq_true rfl, Nat.le_of_ble_eq_true rfl⟩ wd_1126 hclX10 (by decide) rfl [.int v4_2, .int v1_2, .int v5_1, .int 1] rfl rfl rfl (Nat.le_of_ble_eq_true rfl) dX10_areLed_59 (fun r_5 => ?_)
  refine G_iload_n dX10_areLed_62 3 rfl ?_
  refine G_callS_I (m_MD_seen _ _ M) cal_MD_seen ⟨Nat.le_of_ble_eq_true rfl, Nat.le_of_ble_eq_true rfl⟩ wd_1119 rfl rfl (Nat.le_of_ble_eq_true rfl) dX10_areLed_63 (fun r_6 => ?_)
  refine G_aload_n dX10_areLed_66 0 rfl ?_
  refine G_iload dX10_areLed_67 4 rfl ?_
  refine G_iload_n dX10_areLed_69 2 rfl ?_
  refine G_iload dX10_areLed_70 5 rfl ?_
  refine G_iconst (v := 1) dX10_areLed_72 rfl ?_
  refine G_callV_I (m_MD_led _ _ _ _ M) cal_MD_led ⟨Nat.le_of_ble_eq_true rfl, Nat.le_of_ble_eq_true rfl⟩ wd_1126 hclX10 (by decide) rfl [.int v4_2, .int v2_2, .int v5_1, .int 1] rfl rfl rfl (Nat.le_of_ble_eq_true rfl) dX10_areLed_73 (fun r_7 => ?_)
  refine G_iload_n dX10_areLed_76 3 rfl ?_
  refine G_callS_I (m_MD_seen _ _ M) cal_MD_seen ⟨Nat.le_of_ble_eq_true rfl, Nat.le_of_ble_eq_true rfl⟩ wd_1119 rfl rfl (Nat.le_of_ble_eq_true rfl) dX10_areLed_77 (fun r_8 => ?_)
  refine G_icmp_eq 85 dX10_areLed_80 (by decide) (fun _ => ?_) (fun _ => ?_)
  refine G_iinc (v5_1 + 1) dX10_areLed_85 5 rfl rfl (by decide) (L' := [(5, .int (v5_1 + 1)), (0, .ref (ad 33)), (1, .int v1_2), (2, .int v2_2), (3, .int v3_2), (4, .int v4_2)]) rfl ?_
  refine G_goto 12 dX10_areLed_88 (by decide) ?_
  refine G_sub [1, 2, 3, 4, 5, 0] rfl ?_
  exact hag (v5_1 + 1)
  refine G_iconst (v := 0) dX10_areLed_83 rfl ?_
  exact G_zreturn rfl rfl dX10_areLed_84 rfl
  refine G_iconst (v := 0) dX10_areLed_83 rfl ?_
  exact G_zreturn rfl rfl dX10_areLed_84 rfl

set_option maxRecDepth 100000 in
set_option maxHeartbeats 4000000 in
theorem w_MD_areLed_L3 (X : Cx) (ad : Nat → Nat) (v1_1 : Int32) (v2_1 : Int32) (v3_1 : Int32) (M : Mem) (kx : Option Int32) (hkx : G X ad mi_MD_areLed (φI M) 97 [] [] M (kx)) : ∀ (n : Nat) (s : Int32), G X ad mi_MD_areLed (φI M) 3 [(0, .ref (ad 33)), (1, .int v1_1), (2, .int v2_1), (3, .int v3_1), (4, .int s)] [] M (LOOP (fun aq sq => MD_areLed_L3 v1_1 v2_1 v3_1 M kx aq sq) n s) := by
  refine LOOP_rule (fun (s : Int32) o => G X ad mi_MD_areLed (φI M) 3 [(0, .ref (ad 33)), (1, .int v1_1), (2, .int v2_1), (3, .int v3_1), (4, .int s)] [] M o) (fun _ => G_none) (fun ag hag v4_1 => ?_)
  show G X ad mi_MD_areLed (φI M) 3 [(0, .ref (ad 33)), (1, .int v1_1), (2, .int v2_1), (3, .int v3_1), (4, .int v4_1)] [] M (MD_areLed_L3 v1_1 v2_1 v3_1 M kx ag v4_1)
  unfold MD_areLed_L3
  refine G_iload dX10_areLed_3 4 rfl ?_
  refine G_iconst (v := 3) dX10_areLed_5 rfl ?_
  refine G_icmp_ge 97 dX10_areLed_6 (by decide) (fun _ => ?_) (fun _ => ?_)
  refine G_sub [] rfl ?_
  exact hkx
  refine G_iconst (v := 0) dX10_areLed_9 rfl ?_
  refine G_istore dX10_areLed_10 (by decide) (L' := [(5, .int 0), (0, .ref (ad 33)), (1, .int v1_1), (2, .int v2_1), (3, .int v3_1), (4, .int v4_1)]) rfl ?_
  refine G_sub [1, 2, 3, 4, 5, 0] rfl ?_
  refine w_MD_areLed_L12 X ad v1_1 v2_1 v3_1 v4_1 M _ ?_ _ _
  refine G_iinc (v4_1 + 1) dX10_areLed_91 4 rfl rfl (by decide) (L' := [(4, .int (v4_1 + 1)), (0, .ref (ad 33)), (1, .int v1_1), (2, .int v2_1), (3, .int v3_1)]) rfl ?_
  refine G_goto 3 dX10_areLed_94 (by decide) ?_
  refine G_sub [1, 2, 3, 4, 0] rfl ?_
  exact hag (v4_1 + 1)

set_option maxRecDepth 100000 in
set_option maxHeartbeats 4000000 in
theorem m_MD_areLed (v1 : Int32) (v2 : Int32) (v3 : Int32) (M : Mem) : MC mi_MD_areLed (φI M) (fun ad => [.ref (ad 33), .int v1, .int v2, .int v3]) M (MD_areLed v1 v2 v3 M) := by
  refine MC_of rfl (by decide +kernel) (fun ad => [(0, .ref (ad 33)), (1, .int v1), (2, .int v2), (3, .int v3)]) (fun _ => rfl) (fun _ => Nat.le_of_ble_eq_true rfl) (fun X ad => ?_)
  show G X ad mi_MD_areLed (φI M) 0 [(0, .ref (ad 33)), (1, .int v1), (2, .int v2), (3, .int v3)] [] M _
  unfold MD_areLed
  refine G_iconst (v := 0) dX10_areLed_0 rfl ?_
  refine G_istore dX10_areLed_1 (by decide) (L' := [(4, .int 0), (0, .ref (ad 33)), (1, .int v1), (2, .int v2), (3, .int v3)]) rfl ?_
  refine G_sub [1, 2, 3, 4, 0] rfl ?_
  refine w_MD_areLed_L3 X ad v1 v2 v3 M _ ?_ _ _
  refine G_iconst (v := 1) dX10_areLed_97 rfl ?_
  exact G_zreturn rfl rfl dX10_areLed_98 rfl

set_option maxRecDepth 100000 in
set_option maxHeartbeats 4000000 in
theorem w_MD_areTied_L41 (X : Cx) (ad : Nat → Nat) (v1_2 : Int32) (v2_2 : Int32) (v3_2 : Int32) (v4_2 : Int32) (M : Mem) (kx : Option Int32) (hkx : G X ad mi_MD_areTied (φI M) 131 [(0, .ref (ad 33)), (1, .int v1_2), (2, .int v2_2), (3, .int v3_2), (4, .int v4_2)] [] M (kx)) : ∀ (n : Nat) (s : Int32), G X ad mi_MD_areTied (φI M) 41 [(0, .ref (ad 33)), (1, .int v1_2), (2, .int v2_2), (3, .int v3_2), (4, .int v4_2), (5, .int s)] [] M (LOOP (fun aq sq => MD_areTied_L41 v1_2 v2_2 v3_2 v4_2 M kx aq sq) n s) := by
  refine LOOP_rule (fun (s : Int32) o => G X ad mi_MD_areTied (φI M) 41 [(0, .ref (ad 33)), (1, .int v1_2), (2, .int v2_2), (3, .int v3_2), (4, .int v4_2), (5, .int s)] [] M o) (fun _ => G_none) (fun ag hag v5_1 => ?_)
  show G X ad mi_MD_areTied (φI M) 41 [(0, .ref (ad 33)), (1, .int v1_2), (2, .int v2_2), (3, .int v3_2), (4, .int v4_2), (5, .int v5_1)] [] M (MD_areTied_L41 v1_2 v2_2 v3_2 v4_2 M kx ag v5_1)
  unfold MD_areTied_L41
  refine G_iload dX10_areTied_41 5 rfl ?_
  refine G_aload_n dX10_areTied_43 0 rfl ?_
  refine G_getI hclX10 (by decide) rfl 8 (by decide) rfl wd_904 dX10_areTied_44 ?_
  refine G_icmp_ge 131 dX10_areTied_47 (by decide) (fun _ => ?_) (fun _ => ?_)
  refine G_sub [0, 1, 2, 3, 4] rfl ?_
  exact hkx
  refine G_iload dX10_areTied_50 5 rfl ?_
  refine G_iload_n dX10_areTied_52 1 rfl ?_
  refine G_icmp_eq 125 dX10_areTied_53 (by decide) (fun _ => ?_) (fun _ => ?_)
  refine G_iinc (v5_1 + 1) dX10_areTied_125 5 rfl rfl (by decide) (L' := [(5, .int (v5_1 + 1)), (0, .ref (ad 33)), (1, .int v1_2), (2, .int v2_2), (3, .int v3_2), (4, .int v4_2)]) rfl ?_
  refine G_goto 41 dX10_areTied_128 (by decide) ?_
  refine G_sub [1, 2, 3, 4, 5, 0] rfl ?_
  exact hag (v5_1 + 1)
  refine G_iload dX10_areTied_56 5 rfl ?_
  refine G_iload_n dX10_areTied_58 2 rfl ?_
  refine G_icmp_ne 65 dX10_areTied_59 (by decide) (fun _ => ?_) (fun _ => ?_)
  refine G_goto 125 dX10_areTied_62 (by decide) ?_
  refine G_iinc (v5_1 + 1) dX10_areTied_125 5 rfl rfl (by decide) (L' := [(5, .int (v5_1 + 1)), (0, .ref (ad 33)), (1, .int v1_2), (2, .int v2_2), (3, .int v3_2), (4, .int v4_2)]) rfl ?_
  refine G_goto 41 dX10_areTied_128 (by decide) ?_
  refine G_sub [1, 2, 3, 4, 5, 0] rfl ?_
  exact hag (v5_1 + 1)
  refine G_aload_n dX10_areTied_65 0 rfl ?_
  refine G_iload dX10_areTied_66 4 rfl ?_
  refine G_iload_n dX10_areTied_68 1 rfl ?_
  refine G_iload dX10_areTied_69 5 rfl ?_
  refine G_callV_I (m_MD_strong _ _ _ M) cal_MD_strong ⟨Nat.le_of_ble_eq_true rfl, Nat.le_of_ble_eq_true rfl⟩ wd_1080 hclX10 (by decide) rfl [.int v4_2, .int v1_2, .int v5_1] rfl rfl rfl (Nat.le_of_ble_eq_true rfl) dX10_areTied_71 (fun r_5 => ?_)
  refine G_iload_n dX10_areTied_74 3 rfl ?_
  refine G_callS_I (m_MD_seen _ _ M) cal_MD_seen ⟨Nat.le_of_ble_eq_true rfl, Nat.le_of_ble_eq_true rfl⟩ wd_1119 rfl rfl (Nat.le_of_ble_eq_true rfl) dX10_areTied_75 (fun r_6 => ?_)
  refine G_aload_n dX10_areTied_78 0 rfl ?_
  refine G_iload dX10_areTied_79 4 rfl ?_
  refine G_iload_n dX10_areTied_81 2 rfl ?_
  refine G_iload dX10_areTied_82 5 rfl ?_
  refine G_callV_I (m_MD_strong _ _ _ M) cal_MD_strong ⟨Nat.le_of_ble_eq_true rfl, Nat.le_of_ble_eq_true rfl⟩ wd_1080 hclX10 (by decide) rfl [.int v4_2, .int v2_2, .int v5_1] rfl rfl rfl (Nat.le_of_ble_eq_true rfl) dX10_areTied_84 (fun r_7 => ?_)
  refine G_iload_n dX10_areTied_87 3 rfl ?_
  refine G_callS_I (m_MD_seen _ _ M) cal_MD_seen ⟨Nat.le_of_ble_eq_true rfl, Nat.le_of_ble_eq_true rfl⟩ wd_1119 rfl rfl (Nat.le_of_ble_eq_true rfl) dX10_areTied_88 (fun r_8 => ?_)
  refine G_icmp_ne 123 dX10_areTied_91 (by decide) (fun _ => ?_) (fun _ => ?_)
  refine G_aload_n dX10_areTied_94 0 rfl ?_
  refine G_iload dX10_areTied_95 4 rfl ?_
  refine G_iload dX10_areTied_97 5 rfl ?_
  refine G_iload_n dX10_areTied_99 1 rfl ?_
  refine G_callV_I (m_MD_strong _ _ _ M) cal_MD_strong ⟨Nat.le_of_ble_eq_true rfl, Nat.le_of_ble_eq_true rfl⟩ wd_1080 hclX10 (by decide) rfl [.int v4_2, .int v5_1, .int v1_2] rfl rfl rfl (Nat.le_of_ble_eq_true rfl) dX10_areTied_100 (fun r_9 => ?_)
  refine G_iload_n dX10_areTied_103 3 rfl ?_
  refine G_callS_I (m_MD_seen _ _ M) cal_MD_seen ⟨Nat.le_of_ble_eq_true rfl, Nat.le_of_ble_eq_true rfl⟩ wd_1119 rfl rfl (Nat.le_of_ble_eq_true rfl) dX10_areTied_104 (fun r_10 => ?_)
  refine G_aload_n dX10_areTied_107 0 rfl ?_
  refine G_iload dX10_areTied_108 4 rfl ?_
  refine G_iload dX10_areTied_110 5 rfl ?_
  refine G_iload_n dX10_areTied_112 2 rfl ?_
  refine G_callV_I (m_MD_strong _ _ _ M) cal_MD_strong ⟨Nat.le_of_ble_eq_true rfl, Nat.le_of_ble_eq_true rfl⟩ wd_1080 hclX10 (by decide) rfl [.int v4_2, .int v5_1, .int v2_2] rfl rfl rfl (Nat.le_of_ble_eq_true rfl) dX10_areTied_113 (fun r_11 => ?_)
  refine G_iload_n dX10_areTied_116 3 rfl ?_
  refine G_callS_I (m_MD_seen _ _ M) cal_MD_seen ⟨Nat.le_of_ble_eq_true rfl, Nat.le_of_ble_eq_true rfl⟩ wd_1119 rfl rfl (Nat.le_of_ble_eq_true rfl) dX10_areTied_117 (fun r_12 => ?_)
  refine G_icmp_eq 125 dX10_areTied_120 (by decide) (fun _ => ?_) (fun _ => ?_)
  refine G_iinc (v5_1 + 1) dX10_areTied_125 5 rfl rfl (by decide) (L' := [(5, .int (v5_1 + 1)), (0, .ref (ad 33)), (1, .int v1_2), (2, .int v2_2), (3, .int v3_2), (4, .int v4_2)]) rfl ?_
  refine G_goto 41 dX10_areTied_128 (by decide) ?_
  refine G_sub [1, 2, 3, 4, 5, 0] rfl ?_
  exact hag (v5_1 + 1)
  refine G_iconst (v := 0) dX10_areTied_123 rfl ?_
  exact G_zreturn rfl rfl dX10_areTied_124 rfl
  refine G_iconst (v := 0) dX10_areTied_123 rfl ?_
  exact G_zreturn rfl rfl dX10_areTied_124 rfl

set_option maxRecDepth 100000 in
set_option maxHeartbeats 4000000 in
theorem w_MD_areTied_L3 (X : Cx) (ad : Nat → Nat) (v1_1 : Int32) (v2_1 : Int32) (v3_1 : Int32) (M : Mem) (kx : Option Int32) (hkx : G X ad mi_MD_areTied (φI M) 137 [] [] M (kx)) : ∀ (n : Nat) (s : Int32), G X ad mi_MD_areTied (φI M) 3 [(0, .ref (ad 33)), (1, .int v1_1), (2, .int v2_1), (3, .int v3_1), (4, .int s)] [] M (LOOP (fun aq sq => MD_areTied_L3 v1_1 v2_1 v3_1 M kx aq sq) n s) := by
  refine LOOP_rule (fun (s : Int32) o => G X ad mi_MD_areTied (φI M) 3 [(0, .ref (ad 33)), (1, .int v1_1), (2, .int v2_1), (3, .int v3_1), (4, .int s)] [] M o) (fun _ => G_none) (fun ag hag v4_1 => ?_)
  show G X ad mi_MD_areTied (φI M) 3 [(0, .ref (ad 33)), (1, .int v1_1), (2, .int v2_1), (3, .int v3_1), (4, .int v4_1)] [] M (MD_areTied_L3 v1_1 v2_1 v3_1 M kx ag v4_1)
  unfold MD_areTied_L3
  refine G_iload dX10_areTied_3 4 rfl ?_
  refine G_iconst (v := 3) dX10_areTied_5 rfl ?_
  refine G_icmp_ge 137 dX10_areTied_6 (by decide) (fun _ => ?_) (fun _ => ?_)
  refine G_sub [] rfl ?_
  exact hkx
  refine G_aload_n dX10_areTied_9 0 rfl ?_
  refine G_iload dX10_areTied_10 4 rfl ?_
  refine G_iload_n dX10_areTied_12 1 rfl ?_
  refine G_iload_n dX10_areTied_13 2 rfl ?_
  refine G_callV_I (m_MD_strong _ _ _ M) cal_MD_strong ⟨Nat.le_of_ble_eq_true rfl, Nat.le_of_ble_eq_true rfl⟩ wd_1080 hclX10 (by decide) rfl [.int v4_1, .int v1_1, .int v2_1] rfl rfl rfl (Nat.le_of_ble_eq_true rfl) dX10_areTied_14 (fun r_1 => ?_)
  refine G_iload_n dX10_areTied_17 3 rfl ?_
  refine G_callS_I (m_MD_seen _ _ M) cal_MD_seen ⟨Nat.le_of_ble_eq_true rfl, Nat.le_of_ble_eq_true rfl⟩ wd_1119 rfl rfl (Nat.le_of_ble_eq_true rfl) dX10_areTied_18 (fun r_2 => ?_)
  refine G_aload_n dX10_areTied_21 0 rfl ?_
  refine G_iload dX10_areTied_22 4 rfl ?_
  refine G_iload_n dX10_areTied_24 2 rfl ?_
  refine G_iload_n dX10_areTied_25 1 rfl ?_
  refine G_callV_I (m_MD_strong _ _ _ M) cal_MD_strong ⟨Nat.le_of_ble_eq_true rfl, Nat.le_of_ble_eq_true rfl⟩ wd_1080 hclX10 (by decide) rfl [.int v4_1, .int v2_1, .int v1_1] rfl rfl rfl (Nat.le_of_ble_eq_true rfl) dX10_areTied_26 (fun r_3 => ?_)
  refine G_iload_n dX10_areTied_29 3 rfl ?_
  refine G_callS_I (m_MD_seen _ _ M) cal_MD_seen ⟨Nat.le_of_ble_eq_true rfl, Nat.le_of_ble_eq_true rfl⟩ wd_1119 rfl rfl (Nat.le_of_ble_eq_true rfl) dX10_areTied_30 (fun r_4 => ?_)
  refine G_icmp_eq 38 dX10_areTied_33 (by decide) (fun _ => ?_) (fun _ => ?_)
  refine G_iconst (v := 0) dX10_areTied_38 rfl ?_
  refine G_istore dX10_areTied_39 (by decide) (L' := [(5, .int 0), (0, .ref (ad 33)), (1, .int v1_1), (2, .int v2_1), (3, .int v3_1), (4, .int v4_1)]) rfl ?_
  refine G_sub [1, 2, 3, 4, 5, 0] rfl ?_
  refine w_MD_areTied_L41 X ad v1_1 v2_1 v3_1 v4_1 M _ ?_ _ _
  refine G_iinc (v4_1 + 1) dX10_areTied_131 4 rfl rfl (by decide) (L' := [(4, .int (v4_1 + 1)), (0, .ref (ad 33)), (1, .int v1_1), (2, .int v2_1), (3, .int v3_1)]) rfl ?_
  refine G_goto 3 dX10_areTied_134 (by decide) ?_
  refine G_sub [1, 2, 3, 4, 0] rfl ?_
  exact hag (v4_1 + 1)
  refine G_iconst (v := 0) dX10_areTied_36 rfl ?_
  exact G_zreturn rfl rfl dX10_areTied_37 rfl

set_option maxRecDepth 100000 in
set_option maxHeartbeats 4000000 in
theorem m_MD_areTied (v1 : Int32) (v2 : Int32) (v3 : Int32) (M : Mem) : MC mi_MD_areTied (φI M) (fun ad => [.ref (ad 33), .int v1, .int v2, .int v3]) M (MD_areTied v1 v2 v3 M) := by
  refine MC_of rfl (by decide +kernel) (fun ad => [(0, .ref (ad 33)), (1, .int v1), (2, .int v2), (3, .int v3)]) (fun _ => rfl) (fun _ => Nat.le_of_ble_eq_true rfl) (fun X ad => ?_)
  show G X ad mi_MD_areTied (φI M) 0 [(0, .ref (ad 33)), (1, .int v1), (2, .int v2), (3, .int v3)] [] M _
  unfold MD_areTied
  refine G_iconst (v := 0) dX10_areTied_0 rfl ?_
  refine G_istore dX10_areTied_1 (by decide) (L' := [(4, .int 0), (0, .ref (ad 33)), (1, .int v1), (2, .int v2), (3, .int v3)]) rfl ?_
  refine G_sub [1, 2, 3, 4, 0] rfl ?_
  refine w_MD_areTied_L3 X ad v1 v2 v3 M _ ?_ _ _
  refine G_iconst (v := 1) dX10_areTied_137 rfl ?_
  exact G_zreturn rfl rfl dX10_areTied_138 rfl

set_option maxRecDepth 100000 in
set_option maxHeartbeats 4000000 in
theorem m_MD_areSo (v1 : Int32) (v2 : Int32) (v3 : Int32) (M : Mem) : MC mi_MD_areSo (φI M) (fun ad => [.ref (ad 33), .int v1, .int v2, .int v3]) M (MD_areSo v1 v2 v3 M) := by
  refine MC_of rfl (by decide +kernel) (fun ad => [(0, .ref (ad 33)), (1, .int v1), (2, .int v2), (3, .int v3)]) (fun _ => rfl) (fun _ => Nat.le_of_ble_eq_true rfl) (fun X ad => ?_)
  show G X ad mi_MD_areSo (φI M) 0 [(0, .ref (ad 33)), (1, .int v1), (2, .int v2), (3, .int v3)] [] M _
  unfold MD_areSo
  refine G_aload_n dX10_areSo_0 0 rfl ?_
  refine G_getR hclX10 (by decide) rfl 1 (by decide) rfl wd_897 dX10_areSo_1 ?_
  refine G_iload_n dX10_areSo_4 1 rfl ?_
  refine G_iald (by decide) rfl dX10_areSo_5 ?_
  refine G_aload_n dX10_areSo_6 0 rfl ?_
  refine G_getR hclX10 (by decide) rfl 1 (by decide) rfl wd_897 dX10_areSo_7 ?_
  refine G_iload_n dX10_areSo_10 2 rfl ?_
  refine G_iald (by decide) rfl dX10_areSo_11 ?_
  refine G_icmp_eq 17 dX10_areSo_12 (by decide) (fun _ => ?_) (fun _ => ?_)
  refine G_iload_n dX10_areSo_17 3 rfl ?_
  refine G_if_ne 23 dX10_areSo_18 (by decide) (fun _ => ?_) (fun _ => ?_)
  refine G_iconst (v := 1) dX10_areSo_21 rfl ?_
  exact G_zreturn rfl rfl dX10_areSo_22 rfl
  refine G_iload_n dX10_areSo_23 3 rfl ?_
  refine G_iconst (v := 3) dX10_areSo_24 rfl ?_
  refine G_icmp_ge 47 dX10_areSo_25 (by decide) (fun _ => ?_) (fun _ => ?_)
  refine G_aload_n dX10_areSo_47 0 rfl ?_
  refine G_iload_n dX10_areSo_48 1 rfl ?_
  refine G_iload_n dX10_areSo_49 2 rfl ?_
  refine G_iload_n dX10_areSo_50 3 rfl ?_
  refine G_iconst (v := 4) dX10_areSo_51 rfl ?_
  refine G_jp (fun kq => ∀ (s_1 : Int32), G X ad mi_MD_areSo (φI M) 60 [] [.int s_1, .int v2, .int v1, .ref (ad 33)] M (kq s_1)) (fun s_1 => ?_) (fun k_1 hk_1 => ?_)
  refine G_callV_I (m_MD_areLed _ _ _ M) cal_MD_areLed ⟨Nat.le_of_ble_eq_true rfl, Nat.le_of_ble_eq_true rfl⟩ wd_1122 hclX10 (by decide) rfl [.int v1, .int v2, .int s_1] rfl rfl rfl (Nat.le_of_ble_eq_true rfl) dX10_areSo_60 (fun r_1 => ?_)
  exact G_zreturn rfl rfl dX10_areSo_63 rfl
  refine G_icmp_ne 59 dX10_areSo_52 (by decide) (fun _ => ?_) (fun _ => ?_)
  refine G_iconst (v := 1) dX10_areSo_55 rfl ?_
  refine G_goto 60 dX10_areSo_56 (by decide) ?_
  refine G_sub [] rfl ?_
  exact hk_1 1
  refine G_iconst (v := 0) dX10_areSo_59 rfl ?_
  refine G_sub [] rfl ?_
  exact hk_1 0
  refine G_aload_n dX10_areSo_28 0 rfl ?_
  refine G_iload_n dX10_areSo_29 1 rfl ?_
  refine G_iload_n dX10_areSo_30 2 rfl ?_
  refine G_iload_n dX10_areSo_31 3 rfl ?_
  refine G_iconst (v := 2) dX10_areSo_32 rfl ?_
  refine G_jp (fun kq => ∀ (s_2 : Int32), G X ad mi_MD_areSo (φI M) 41 [] [.int s_2, .int v2, .int v1, .ref (ad 33)] M (kq s_2)) (fun s_2 => ?_) (fun k_2 hk_2 => ?_)
  refine G_callV_I (m_MD_areTied _ _ _ M) cal_MD_areTied ⟨Nat.le_of_ble_eq_true rfl, Nat.le_of_ble_eq_true rfl⟩ wd_1115 hclX10 (by decide) rfl [.int v1, .int v2, .int s_2] rfl rfl rfl (Nat.le_of_ble_eq_true rfl) dX10_areSo_41 (fun r_2 => ?_)
  refine G_goto 63 dX10_areSo_44 (by decide) ?_
  exact G_zreturn rfl rfl dX10_areSo_63 rfl
  refine G_icmp_ne 40 dX10_areSo_33 (by decide) (fun _ => ?_) (fun _ => ?_)
  refine G_iconst (v := 1) dX10_areSo_36 rfl ?_
  refine G_goto 41 dX10_areSo_37 (by decide) ?_
  refine G_sub [] rfl ?_
  exact hk_2 1
  refine G_iconst (v := 0) dX10_areSo_40 rfl ?_
  refine G_sub [] rfl ?_
  exact hk_2 0
  refine G_iconst (v := 0) dX10_areSo_15 rfl ?_
  exact G_zreturn rfl rfl dX10_areSo_16 rfl

set_option maxRecDepth 100000 in
set_option maxHeartbeats 4000000 in
theorem w_MD_judged_L14 (X : Cx) (ad : Nat → Nat) (v1_2 : Int32) (v2_2 : Int32) (M : Mem) (kx : Option Int32) (hkx : G X ad mi_MD_judged (φI M) 60 [(0, .ref (ad 33)), (1, .int v1_2), (2, .int v2_2)] [] M (kx)) : ∀ (n : Nat) (s : Int32), G X ad mi_MD_judged (φI M) 14 [(0, .ref (ad 33)), (1, .int v1_2), (2, .int v2_2), (3, .int s)] [] M (LOOP (fun aq sq => MD_judged_L14 v1_2 v2_2 M kx aq sq) n s) := by
  refine LOOP_rule (fun (s : Int32) o => G X ad mi_MD_judged (φI M) 14 [(0, .ref (ad 33)), (1, .int v1_2), (2, .int v2_2), (3, .int s)] [] M o) (fun _ => G_none) (fun ag hag v3_2 => ?_)
  show G X ad mi_MD_judged (φI M) 14 [(0, .ref (ad 33)), (1, .int v1_2), (2, .int v2_2), (3, .int v3_2)] [] M (MD_judged_L14 v1_2 v2_2 M kx ag v3_2)
  unfold MD_judged_L14
  refine G_iload_n dX10_judged_14 3 rfl ?_
  refine G_aload_n dX10_judged_15 0 rfl ?_
  refine G_getI hclX10 (by decide) rfl 8 (by decide) rfl wd_904 dX10_judged_16 ?_
  refine G_icmp_ge 60 dX10_judged_19 (by decide) (fun _ => ?_) (fun _ => ?_)
  refine G_sub [0, 1, 2] rfl ?_
  exact hkx
  refine G_aload_n dX10_judged_22 0 rfl ?_
  refine G_getR hclX10 (by decide) rfl 22 (by decide) rfl wd_918 dX10_judged_23 ?_
  refine G_iload_n dX10_judged_26 2 rfl ?_
  refine G_iald (by decide) rfl dX10_judged_27 ?_
  refine G_aload_n dX10_judged_28 0 rfl ?_
  refine G_getR hclX10 (by decide) rfl 22 (by decide) rfl wd_918 dX10_judged_29 ?_
  refine G_iload_n dX10_judged_32 3 rfl ?_
  refine G_iald (by decide) rfl dX10_judged_33 ?_
  refine G_icmp_ne 54 dX10_judged_34 (by decide) (fun _ => ?_) (fun _ => ?_)
  refine G_aload_n dX10_judged_37 0 rfl ?_
  refine G_iload_n dX10_judged_38 2 rfl ?_
  refine G_iload_n dX10_judged_39 3 rfl ?_
  refine G_iload_n dX10_judged_40 1 rfl ?_
  refine G_callV_I (m_MD_areSo _ _ _ M) cal_MD_areSo ⟨Nat.le_of_ble_eq_true rfl, Nat.le_of_ble_eq_true rfl⟩ wd_1111 hclX10 (by decide) rfl [.int v2_2, .int v3_2, .int v1_2] rfl rfl rfl (Nat.le_of_ble_eq_true rfl) dX10_judged_41 (fun r_1 => ?_)
  refine G_if_ne 54 dX10_judged_44 (by decide) (fun _ => ?_) (fun _ => ?_)
  refine G_bipush (v := 10) dX10_judged_47 rfl ?_
  refine G_iload_n dX10_judged_49 2 rfl ?_
  refine G_imul dX10_judged_50 ?_
  refine G_iload_n dX10_judged_51 3 rfl ?_
  refine G_iadd dX10_judged_52 ?_
  exact G_ireturn rfl rfl dX10_judged_53 rfl
  refine G_iinc (v3_2 + 1) dX10_judged_54 3 rfl rfl (by decide) (L' := [(3, .int (v3_2 + 1)), (0, .ref (ad 33)), (1, .int v1_2), (2, .int v2_2)]) rfl ?_
  refine G_goto 14 dX10_judged_57 (by decide) ?_
  refine G_sub [1, 2, 3, 0] rfl ?_
  exact hag (v3_2 + 1)
  refine G_iinc (v3_2 + 1) dX10_judged_54 3 rfl rfl (by decide) (L' := [(3, .int (v3_2 + 1)), (0, .ref (ad 33)), (1, .int v1_2), (2, .int v2_2)]) rfl ?_
  refine G_goto 14 dX10_judged_57 (by decide) ?_
  refine G_sub [1, 2, 3, 0] rfl ?_
  exact hag (v3_2 + 1)

set_option maxRecDepth 100000 in
set_option maxHeartbeats 4000000 in
theorem w_MD_judged_L2 (X : Cx) (ad : Nat → Nat) (v1_1 : Int32) (M : Mem) (kx : Option Int32) (hkx : G X ad mi_MD_judged (φI M) 66 [] [] M (kx)) : ∀ (n : Nat) (s : Int32), G X ad mi_MD_judged (φI M) 2 [(0, .ref (ad 33)), (1, .int v1_1), (2, .int s)] [] M (LOOP (fun aq sq => MD_judged_L2 v1_1 M kx aq sq) n s) := by
  refine LOOP_rule (fun (s : Int32) o => G X ad mi_MD_judged (φI M) 2 [(0, .ref (ad 33)), (1, .int v1_1), (2, .int s)] [] M o) (fun _ => G_none) (fun ag hag v2_1 => ?_)
  show G X ad mi_MD_judged (φI M) 2 [(0, .ref (ad 33)), (1, .int v1_1), (2, .int v2_1)] [] M (MD_judged_L2 v1_1 M kx ag v2_1)
  unfold MD_judged_L2
  refine G_iload_n dX10_judged_2 2 rfl ?_
  refine G_aload_n dX10_judged_3 0 rfl ?_
  refine G_getI hclX10 (by decide) rfl 8 (by decide) rfl wd_904 dX10_judged_4 ?_
  refine G_icmp_ge 66 dX10_judged_7 (by decide) (fun _ => ?_) (fun _ => ?_)
  refine G_sub [] rfl ?_
  exact hkx
  refine G_iload_n dX10_judged_10 2 rfl ?_
  refine G_iconst (v := 1) dX10_judged_11 rfl ?_
  refine G_iadd dX10_judged_12 ?_
  refine G_nmI (fun v3_1 => ?_)
  refine G_istore_n 3 rfl dX10_judged_13 (by decide) (L' := [(3, .int v3_1), (0, .ref (ad 33)), (1, .int v1_1), (2, .int v2_1)]) rfl ?_
  refine G_sub [1, 2, 3, 0] rfl ?_
  refine w_MD_judged_L14 X ad v1_1 v2_1 M _ ?_ _ _
  refine G_iinc (v2_1 + 1) dX10_judged_60 2 rfl rfl (by decide) (L' := [(2, .int (v2_1 + 1)), (0, .ref (ad 33)), (1, .int v1_1)]) rfl ?_
  refine G_goto 2 dX10_judged_63 (by decide) ?_
  refine G_sub [1, 2, 0] rfl ?_
  exact hag (v2_1 + 1)

set_option maxRecDepth 100000 in
set_option maxHeartbeats 4000000 in
theorem m_MD_judged (v1 : Int32) (M : Mem) : MC mi_MD_judged (φI M) (fun ad => [.ref (ad 33), .int v1]) M (MD_judged v1 M) := by
  refine MC_of rfl (by decide +kernel) (fun ad => [(0, .ref (ad 33)), (1, .int v1)]) (fun _ => rfl) (fun _ => Nat.le_of_ble_eq_true rfl) (fun X ad => ?_)
  show G X ad mi_MD_judged (φI M) 0 [(0, .ref (ad 33)), (1, .int v1)] [] M _
  unfold MD_judged
  refine G_iconst (v := 0) dX10_judged_0 rfl ?_
  refine G_istore_n 2 rfl dX10_judged_1 (by decide) (L' := [(2, .int 0), (0, .ref (ad 33)), (1, .int v1)]) rfl ?_
  refine G_sub [1, 2, 0] rfl ?_
  refine w_MD_judged_L2 X ad v1 M _ ?_ _ _
  refine G_bipush (v := -9) dX10_judged_66 rfl ?_
  exact G_ireturn rfl rfl dX10_judged_68 rfl

set_option maxRecDepth 100000 in
set_option maxHeartbeats 4000000 in
theorem m_MD_judge (v1 : Int32) (v2 : Int32) (M : Mem) : MC mi_MD_judge (φIM) (fun ad => [.ref (ad 33), .int v1, .int v2]) M (MD_judge v1 v2 M) := by
  refine MC_of rfl (by decide +kernel) (fun ad => [(0, .ref (ad 33)), (1, .int v1), (2, .int v2)]) (fun _ => rfl) (fun _ => Nat.le_of_ble_eq_true rfl) (fun X ad => ?_)
  show G X ad mi_MD_judge (φIM) 0 [(0, .ref (ad 33)), (1, .int v1), (2, .int v2)] [] M _
  unfold MD_judge
  refine G_aload_n dX10_judge_0 0 rfl ?_
  refine G_iload_n dX10_judge_1 1 rfl ?_
  refine G_aload_n dX10_judge_2 0 rfl ?_
  refine G_getR hclX10 (by decide) rfl 22 (by decide) rfl wd_918 dX10_judge_3 ?_
  refine G_callV_IM (m_MD_opens _ 50 isA_50 M) cal_MD_opens ⟨Nat.le_of_ble_eq_true rfl, Nat.le_of_ble_eq_true rfl⟩ wd_1096 hclX10 (by decide) rfl [.int v1, .ref (ad 50)] rfl rfl rfl (Nat.le_of_ble_eq_true rfl) dX10_judge_6 (fun r_1 M1 => ?_)
  refine G_jp (fun kq => G X ad mi_MD_judge (φIM) 19 [(0, .ref (ad 33))] [] M1 (kq)) ?_ (fun k_1 hk_1 => ?_)
  refine G_aload_n dX10_judge_19 0 rfl ?_
  refine G_iconst (v := -1) dX10_judge_20 rfl ?_
  refine G_callV_IM (m_MD_no _ M1) cal_MD_no ⟨Nat.le_of_ble_eq_true rfl, Nat.le_of_ble_eq_true rfl⟩ wd_1008 hclX10 (by decide) rfl [.int (-1)] rfl rfl rfl (Nat.le_of_ble_eq_true rfl) dX10_judge_21 (fun r_2 M2 => ?_)
  exact G_ireturn rfl rfl dX10_judge_24 rfl
  refine G_if_lt 19 dX10_judge_9 (by decide) (fun _ => ?_) (fun _ => ?_)
  refine G_sub [0] rfl ?_
  exact hk_1
  refine G_iload_n dX10_judge_12 2 rfl ?_
  refine G_callS_I (m_MD_isSameness _ M1) cal_MD_isSameness ⟨Nat.le_of_ble_eq_true rfl, Nat.le_of_ble_eq_true rfl⟩ wd_1104 rfl rfl (Nat.le_of_ble_eq_true rfl) dX10_judge_13 (fun r_3 => ?_)
  refine G_if_ne 25 dX10_judge_16 (by decide) (fun _ => ?_) (fun _ => ?_)
  refine G_sub [0] rfl ?_
  exact hk_1
  refine G_aload_n dX10_judge_25 0 rfl ?_
  refine G_aload_n dX10_judge_26 0 rfl ?_
  refine G_getI hclX10 (by decide) rfl 10 (by decide) rfl wd_906 dX10_judge_27 ?_
  refine G_callV_V (m_MD_findTies _ M1) cal_MD_findTies ⟨Nat.le_of_ble_eq_true rfl, Nat.le_of_ble_eq_true rfl⟩ wd_1076 hclX10 (by decide) rfl [.int (M1 33 10)] rfl rfl rfl (Nat.le_of_ble_eq_true rfl) dX10_judge_30 (fun M3 => ?_)
  refine G_aload_n dX10_judge_33 0 rfl ?_
  refine G_iload_n dX10_judge_34 2 rfl ?_
  refine G_callV_I (m_MD_judged _ M3) cal_MD_judged ⟨Nat.le_of_ble_eq_true rfl, Nat.le_of_ble_eq_true rfl⟩ wd_1107 hclX10 (by decide) rfl [.int v2] rfl rfl rfl (Nat.le_of_ble_eq_true rfl) dX10_judge_35 (fun r_4 => ?_)
  exact G_ireturn rfl rfl dX10_judge_38 rfl

set_option maxRecDepth 100000 in
set_option maxHeartbeats 4000000 in
theorem w_MD_splits_L28 (X : Cx) (ad : Nat → Nat) (v1_3 : Int32) (v3_2 : Int32) (kx : Mem → Option (Int32 × Mem)) (hkx : ∀ (Me : Mem), G X ad mi_MD_splits (φIM) 88 [(0, .ref (ad 33)), (1, .int v1_3), (3, .int v3_2)] [] Me (kx Me)) : ∀ (n : Nat) (s : Int32 × Mem), G X ad mi_MD_splits (φIM) 28 [(0, .ref (ad 33)), (1, .int v1_3), (3, .int v3_2), (4, .int s.1)] [] s.2 (LOOP (fun aq sq => MD_splits_L28 v1_3 v3_2 kx aq sq.1 sq.2) n s) := by
  refine LOOP_rule (fun (s : Int32 × Mem) o => G X ad mi_MD_splits (φIM) 28 [(0, .ref (ad 33)), (1, .int v1_3), (3, .int v3_2), (4, .int s.1)] [] s.2 o) (fun _ => G_none) (fun ag hag s => ?_)
  obtain ⟨v4_2, M4⟩ := s
  show G X ad mi_MD_splits (φIM) 28 [(0, .ref (ad 33)), (1, .int v1_3), (3, .int v3_2), (4, .int v4_2)] [] M4 (MD_splits_L28 v1_3 v3_2 kx ag v4_2 M4)
  unfold MD_splits_L28
  refine G_iload dX10_splits_28 3 rfl ?_
  refine G_if_lt 88 dX10_splits_30 (by decide) (fun _ => ?_) (fun _ => ?_)
  refine G_sub [0, 1, 2] rfl ?_
  exact hkx M4
  refine G_aload_n dX10_splits_33 0 rfl ?_
  refine G_getR hclX10 (by decide) rfl 24 (by decide) rfl wd_920 dX10_splits_34 ?_
  refine G_iload_n dX10_splits_37 2 rfl ?_
  refine G_aload_n dX10_splits_38 0 rfl ?_
  refine G_getR hclX10 (by decide) rfl 22 (by decide) rfl wd_918 dX10_splits_39 ?_
  refine G_iload_n dX10_splits_42 2 rfl ?_
  refine G_iald (by decide) rfl dX10_splits_43 ?_
  refine G_aload_n dX10_splits_44 0 rfl ?_
  refine G_getR hclX10 (by decide) rfl 22 (by decide) rfl wd_918 dX10_splits_45 ?_
  refine G_iload dX10_splits_48 3 rfl ?_
  refine G_iald (by decide) rfl dX10_splits_50 ?_
  refine G_icmp_ne 75 dX10_splits_51 (by decide) (fun _ => ?_) (fun _ => ?_)
  refine G_aload_n dX10_splits_54 0 rfl ?_
  refine G_iload dX10_splits_55 3 rfl ?_
  refine G_iload_n dX10_splits_57 2 rfl ?_
  refine G_iload_n dX10_splits_58 1 rfl ?_
  refine G_callV_I (m_MD_areSo _ _ _ M4) cal_MD_areSo ⟨Nat.le_of_ble_eq_true rfl, Nat.le_of_ble_eq_true rfl⟩ wd_1111 hclX10 (by decide) rfl [.int v4_2, .int v3_2, .int v1_3] rfl rfl rfl (Nat.le_of_ble_eq_true rfl) dX10_splits_59 (fun r_1 => ?_)
  refine G_if_eq 75 dX10_splits_62 (by decide) (fun _ => ?_) (fun _ => ?_)
  refine G_aload_n dX10_splits_75 0 rfl ?_
  refine G_getR hclX10 (by decide) rfl 24 (by decide) rfl wd_920 dX10_splits_76 ?_
  refine G_iload_n dX10_splits_79 2 rfl ?_
  refine G_iald (by decide) rfl dX10_splits_80 ?_
  refine G_iast (by decide) rfl dX10_splits_81 (fun M5 => ?_)
  refine G_iinc (v4_2 + (-1)) dX10_splits_82 3 rfl rfl (by decide) (L' := [(4, .int (v4_2 + (-1))), (0, .ref (ad 33)), (1, .int v1_3), (3, .int v3_2)]) rfl ?_
  refine G_goto 28 dX10_splits_85 (by decide) ?_
  refine G_sub [1, 2, 3, 0] rfl ?_
  exact hag (v4_2 + (-1), M5)
  refine G_aload_n dX10_splits_65 0 rfl ?_
  refine G_getR hclX10 (by decide) rfl 24 (by decide) rfl wd_920 dX10_splits_66 ?_
  refine G_iload dX10_splits_69 3 rfl ?_
  refine G_iald (by decide) rfl dX10_splits_71 ?_
  refine G_goto 81 dX10_splits_72 (by decide) ?_
  refine G_iast (by decide) rfl dX10_splits_81 (fun M6 => ?_)
  refine G_iinc (v4_2 + (-1)) dX10_splits_82 3 rfl rfl (by decide) (L' := [(4, .int (v4_2 + (-1))), (0, .ref (ad 33)), (1, .int v1_3), (3, .int v3_2)]) rfl ?_
  refine G_goto 28 dX10_splits_85 (by decide) ?_
  refine G_sub [1, 2, 3, 0] rfl ?_
  exact hag (v4_2 + (-1), M6)
  refine G_aload_n dX10_splits_75 0 rfl ?_
  refine G_getR hclX10 (by decide) rfl 24 (by decide) rfl wd_920 dX10_splits_76 ?_
  refine G_iload_n dX10_splits_79 2 rfl ?_
  refine G_iald (by decide) rfl dX10_splits_80 ?_
  refine G_iast (by decide) rfl dX10_splits_81 (fun M7 => ?_)
  refine G_iinc (v4_2 + (-1)) dX10_splits_82 3 rfl rfl (by decide) (L' := [(4, .int (v4_2 + (-1))), (0, .ref (ad 33)), (1, .int v1_3), (3, .int v3_2)]) rfl ?_
  refine G_goto 28 dX10_splits_85 (by decide) ?_
  refine G_sub [1, 2, 3, 0] rfl ?_
  exact hag (v4_2 + (-1), M7)

set_option maxRecDepth 100000 in
set_option maxHeartbeats 4000000 in
theorem w_MD_splits_L8 (X : Cx) (ad : Nat → Nat) (v1_2 : Int32) (kx : Mem → Option (Int32 × Mem)) (hkx : ∀ (Me : Mem), G X ad mi_MD_splits (φIM) 94 [(0, .ref (ad 33)), (1, .int v1_2)] [] Me (kx Me)) : ∀ (n : Nat) (s : Int32 × Mem), G X ad mi_MD_splits (φIM) 8 [(0, .ref (ad 33)), (1, .int v1_2), (3, .int s.1)] [] s.2 (LOOP (fun aq sq => MD_splits_L8 v1_2 kx aq sq.1 sq.2) n s) := by
  refine LOOP_rule (fun (s : Int32 × Mem) o => G X ad mi_MD_splits (φIM) 8 [(0, .ref (ad 33)), (1, .int v1_2), (3, .int s.1)] [] s.2 o) (fun _ => G_none) (fun ag hag s => ?_)
  obtain ⟨v3_1, M2⟩ := s
  show G X ad mi_MD_splits (φIM) 8 [(0, .ref (ad 33)), (1, .int v1_2), (3, .int v3_1)] [] M2 (MD_splits_L8 v1_2 kx ag v3_1 M2)
  unfold MD_splits_L8
  refine G_iload_n dX10_splits_8 2 rfl ?_
  refine G_aload_n dX10_splits_9 0 rfl ?_
  refine G_getI hclX10 (by decide) rfl 8 (by decide) rfl wd_904 dX10_splits_10 ?_
  refine G_icmp_ge 94 dX10_splits_13 (by decide) (fun _ => ?_) (fun _ => ?_)
  refine G_sub [0, 1] rfl ?_
  exact hkx M2
  refine G_aload_n dX10_splits_16 0 rfl ?_
  refine G_getR hclX10 (by decide) rfl 24 (by decide) rfl wd_920 dX10_splits_17 ?_
  refine G_iload_n dX10_splits_20 2 rfl ?_
  refine G_iload_n dX10_splits_21 2 rfl ?_
  refine G_iast (by decide) rfl dX10_splits_22 (fun M3 => ?_)
  refine G_iload_n dX10_splits_23 2 rfl ?_
  refine G_iconst (v := 1) dX10_splits_24 rfl ?_
  refine G_isub dX10_splits_25 ?_
  refine G_nmI (fun v4_1 => ?_)
  refine G_istore dX10_splits_26 (by decide) (L' := [(4, .int v4_1), (0, .ref (ad 33)), (1, .int v1_2), (3, .int v3_1)]) rfl ?_
  refine G_sub [1, 2, 3, 0] rfl ?_
  refine w_MD_splits_L28 X ad v1_2 v3_1 _ (fun M8 => ?_) _ _
  refine G_iinc (v3_1 + 1) dX10_splits_88 2 rfl rfl (by decide) (L' := [(3, .int (v3_1 + 1)), (0, .ref (ad 33)), (1, .int v1_2)]) rfl ?_
  refine G_goto 8 dX10_splits_91 (by decide) ?_
  refine G_sub [1, 2, 0] rfl ?_
  exact hag (v3_1 + 1, M8)

set_option maxRecDepth 100000 in
set_option maxHeartbeats 4000000 in
theorem w_MD_splits_L2 (X : Cx) (ad : Nat → Nat) (v1_1 : Int32) (kx : Mem → Option (Int32 × Mem)) (hkx : ∀ (Me : Mem), G X ad mi_MD_splits (φIM) 139 [(0, .ref (ad 33))] [] Me (kx Me)) : ∀ (n : Nat) (s : Int32 × Mem), G X ad mi_MD_splits (φIM) 2 [(0, .ref (ad 33)), (1, .int v1_1), (2, .int s.1)] [] s.2 (LOOP (fun aq sq => MD_splits_L2 v1_1 kx aq sq.1 sq.2) n s) := by
  refine LOOP_rule (fun (s : Int32 × Mem) o => G X ad mi_MD_splits (φIM) 2 [(0, .ref (ad 33)), (1, .int v1_1), (2, .int s.1)] [] s.2 o) (fun _ => G_none) (fun ag hag s => ?_)
  obtain ⟨v2_1, M1⟩ := s
  show G X ad mi_MD_splits (φIM) 2 [(0, .ref (ad 33)), (1, .int v1_1), (2, .int v2_1)] [] M1 (MD_splits_L2 v1_1 kx ag v2_1 M1)
  unfold MD_splits_L2
  refine G_iload_n dX10_splits_2 2 rfl ?_
  refine G_if_eq 139 dX10_splits_3 (by decide) (fun _ => ?_) (fun _ => ?_)
  refine G_sub [0] rfl ?_
  exact hkx M1
  refine G_iconst (v := 0) dX10_splits_6 rfl ?_
  refine G_istore_n 3 rfl dX10_splits_7 (by decide) (L' := [(3, .int 0), (0, .ref (ad 33)), (1, .int v1_1), (2, .int v2_1)]) rfl ?_
  refine G_sub [1, 2, 0] rfl ?_
  refine w_MD_splits_L8 X ad v1_1 _ (fun M9 => ?_) _ _
  refine G_aload_n dX10_splits_94 0 rfl ?_
  refine G_aload_n dX10_splits_95 0 rfl ?_
  refine G_getR hclX10 (by decide) rfl 22 (by decide) rfl wd_918 dX10_splits_96 ?_
  refine G_callV_IM (m_MD_number 50 isA_50 M9) cal_MD_number ⟨Nat.le_of_ble_eq_true rfl, Nat.le_of_ble_eq_true rfl⟩ wd_1138 hclX10 (by decide) rfl [.ref (ad 50)] rfl rfl rfl (Nat.le_of_ble_eq_true rfl) dX10_splits_99 (fun r_2 M10 => ?_)
  refine G_istore_n 3 rfl dX10_splits_102 (by decide) (L' := [(3, .int r_2), (0, .ref (ad 33)), (1, .int v1_1)]) rfl ?_
  refine G_aload_n dX10_splits_103 1 rfl ?_
  refine G_aload_n dX10_splits_104 1 rfl ?_
  refine G_getR hclX10 (by decide) rfl 24 (by decide) rfl wd_920 dX10_splits_105 ?_
  refine G_callV_IM (m_MD_number 52 isA_52 M10) cal_MD_number ⟨Nat.le_of_ble_eq_true rfl, Nat.le_of_ble_eq_true rfl⟩ wd_1138 hclX10 (by decide) rfl [.ref (ad 52)] rfl rfl rfl (Nat.le_of_ble_eq_true rfl) dX10_splits_108 (fun r_3 M11 => ?_)
  refine G_istore dX10_splits_111 (by decide) (L' := [(4, .int r_3), (3, .int r_2), (0, .ref (ad 33)), (1, .int v1_1)]) rfl ?_
  refine G_iload dX10_splits_113 0 rfl ?_
  refine G_iload_n dX10_splits_115 1 rfl ?_
  refine G_jp (fun kq => ∀ (s_1 : Int32), G X ad mi_MD_splits (φIM) 124 [(0, .ref (ad 33)), (1, .int v1_1), (4, .int r_3)] [.int s_1] M11 (kq s_1)) (fun s_1 => ?_) (fun k_1 hk_1 => ?_)
  refine G_istore_n 2 rfl dX10_splits_124 (by decide) (L' := [(2, .int s_1), (0, .ref (ad 33)), (1, .int v1_1), (4, .int r_3)]) rfl ?_
  refine G_aload_n dX10_splits_125 1 rfl ?_
  refine G_iload dX10_splits_126 3 rfl ?_
  refine G_aload_n dX10_splits_128 1 rfl ?_
  refine G_getR hclX10 (by decide) rfl 22 (by decide) rfl wd_918 dX10_splits_129 ?_
  refine G_callV_IM (m_MD_opens _ 50 isA_50 M11) cal_MD_opens ⟨Nat.le_of_ble_eq_true rfl, Nat.le_of_ble_eq_true rfl⟩ wd_1096 hclX10 (by decide) rfl [.int r_3, .ref (ad 50)] rfl rfl rfl (Nat.le_of_ble_eq_true rfl) dX10_splits_132 (fun r_4 M12 => ?_)
  refine G_pop dX10_splits_135 rfl ?_
  refine G_goto 2 dX10_splits_136 (by decide) ?_
  refine G_sub [1, 2, 0] rfl ?_
  exact hag (s_1, M12)
  refine G_icmp_eq 123 dX10_splits_116 (by decide) (fun _ => ?_) (fun _ => ?_)
  refine G_iconst (v := 0) dX10_splits_123 rfl ?_
  refine G_sub [2, 3, 0] rfl ?_
  exact hk_1 0
  refine G_iconst (v := 1) dX10_splits_119 rfl ?_
  refine G_goto 124 dX10_splits_120 (by decide) ?_
  refine G_sub [2, 3, 0] rfl ?_
  exact hk_1 1

set_option maxRecDepth 100000 in
set_option maxHeartbeats 4000000 in
theorem m_MD_splits (v1 : Int32) (M : Mem) : MC mi_MD_splits (φIM) (fun ad => [.ref (ad 33), .int v1]) M (MD_splits v1 M) := by
  refine MC_of rfl (by decide +kernel) (fun ad => [(0, .ref (ad 33)), (1, .int v1)]) (fun _ => rfl) (fun _ => Nat.le_of_ble_eq_true rfl) (fun X ad => ?_)
  show G X ad mi_MD_splits (φIM) 0 [(0, .ref (ad 33)), (1, .int v1)] [] M _
  unfold MD_splits
  refine G_iconst (v := 1) dX10_splits_0 rfl ?_
  refine G_istore_n 2 rfl dX10_splits_1 (by decide) (L' := [(2, .int 1), (0, .ref (ad 33)), (1, .int v1)]) rfl ?_
  refine G_sub [1, 2, 0] rfl ?_
  refine w_MD_splits_L2 X ad v1 _ (fun M13 => ?_) _ _
  refine G_aload_n dX10_splits_139 0 rfl ?_
  refine G_aload_n dX10_splits_140 0 rfl ?_
  refine G_getR hclX10 (by decide) rfl 22 (by decide) rfl wd_918 dX10_splits_141 ?_
  refine G_callV_IM (m_MD_number 50 isA_50 M13) cal_MD_number ⟨Nat.le_of_ble_eq_true rfl, Nat.le_of_ble_eq_true rfl⟩ wd_1138 hclX10 (by decide) rfl [.ref (ad 50)] rfl rfl rfl (Nat.le_of_ble_eq_true rfl) dX10_splits_144 (fun r_5 M14 => ?_)
  exact G_ireturn rfl rfl dX10_splits_147 rfl

set_option maxRecDepth 100000 in
set_option maxHeartbeats 4000000 in
theorem m_MD_coarsest (v1 : Int32) (v2 : Int32) (M : Mem) : MC mi_MD_coarsest (φIM) (fun ad => [.ref (ad 33), .int v1, .int v2]) M (MD_coarsest v1 v2 M) := by
  refine MC_of rfl (by decide +kernel) (fun ad => [(0, .ref (ad 33)), (1, .int v1), (2, .int v2)]) (fun _ => rfl) (fun _ => Nat.le_of_ble_eq_true rfl) (fun X ad => ?_)
  show G X ad mi_MD_coarsest (φIM) 0 [(0, .ref (ad 33)), (1, .int v1), (2, .int v2)] [] M _
  unfold MD_coarsest
  refine G_aload_n dX10_coarsest_0 0 rfl ?_
  refine G_iload_n dX10_coarsest_1 1 rfl ?_
  refine G_aload_n dX10_coarsest_2 0 rfl ?_
  refine G_getR hclX10 (by decide) rfl 22 (by decide) rfl wd_918 dX10_coarsest_3 ?_
  refine G_callV_IM (m_MD_opens _ 50 isA_50 M) cal_MD_opens ⟨Nat.le_of_ble_eq_true rfl, Nat.le_of_ble_eq_true rfl⟩ wd_1096 hclX10 (by decide) rfl [.int v1, .ref (ad 50)] rfl rfl rfl (Nat.le_of_ble_eq_true rfl) dX10_coarsest_6 (fun r_1 M1 => ?_)
  refine G_jp (fun kq => G X ad mi_MD_coarsest (φIM) 19 [(0, .ref (ad 33))] [] M1 (kq)) ?_ (fun k_1 hk_1 => ?_)
  refine G_aload_n dX10_coarsest_19 0 rfl ?_
  refine G_iconst (v := -1) dX10_coarsest_20 rfl ?_
  refine G_callV_IM (m_MD_no _ M1) cal_MD_no ⟨Nat.le_of_ble_eq_true rfl, Nat.le_of_ble_eq_true rfl⟩ wd_1008 hclX10 (by decide) rfl [.int (-1)] rfl rfl rfl (Nat.le_of_ble_eq_true rfl) dX10_coarsest_21 (fun r_2 M2 => ?_)
  exact G_ireturn rfl rfl dX10_coarsest_24 rfl
  refine G_if_lt 19 dX10_coarsest_9 (by decide) (fun _ => ?_) (fun _ => ?_)
  refine G_sub [0] rfl ?_
  exact hk_1
  refine G_iload_n dX10_coarsest_12 2 rfl ?_
  refine G_callS_I (m_MD_isSameness _ M1) cal_MD_isSameness ⟨Nat.le_of_ble_eq_true rfl, Nat.le_of_ble_eq_true rfl⟩ wd_1104 rfl rfl (Nat.le_of_ble_eq_true rfl) dX10_coarsest_13 (fun r_3 => ?_)
  refine G_if_ne 25 dX10_coarsest_16 (by decide) (fun _ => ?_) (fun _ => ?_)
  refine G_sub [0] rfl ?_
  exact hk_1
  refine G_aload_n dX10_coarsest_25 0 rfl ?_
  refine G_aload_n dX10_coarsest_26 0 rfl ?_
  refine G_getI hclX10 (by decide) rfl 10 (by decide) rfl wd_906 dX10_coarsest_27 ?_
  refine G_callV_V (m_MD_findTies _ M1) cal_MD_findTies ⟨Nat.le_of_ble_eq_true rfl, Nat.le_of_ble_eq_true rfl⟩ wd_1076 hclX10 (by decide) rfl [.int (M1 33 10)] rfl rfl rfl (Nat.le_of_ble_eq_true rfl) dX10_coarsest_30 (fun M3 => ?_)
  refine G_aload_n dX10_coarsest_33 0 rfl ?_
  refine G_iload_n dX10_coarsest_34 2 rfl ?_
  refine G_callV_IM (m_MD_splits _ M3) cal_MD_splits ⟨Nat.le_of_ble_eq_true rfl, Nat.le_of_ble_eq_true rfl⟩ wd_1134 hclX10 (by decide) rfl [.int v2] rfl rfl rfl (Nat.le_of_ble_eq_true rfl) dX10_coarsest_35 (fun r_4 M4 => ?_)
  exact G_ireturn rfl rfl dX10_coarsest_38 rfl

set_option maxRecDepth 100000 in
set_option maxHeartbeats 4000000 in
theorem w_MD_firstNames_L2 (X : Cx) (ad : Nat → Nat) (kx : Mem → Option Mem) (hkx : ∀ (Me : Mem), G X ad mi_MD_firstNames (φV) 21 [] [] Me (kx Me)) : ∀ (n : Nat) (s : Int32 × Mem), G X ad mi_MD_firstNames (φV) 2 [(0, .ref (ad 33)), (1, .int s.1)] [] s.2 (LOOP (fun aq sq => MD_firstNames_L2 kx aq sq.1 sq.2) n s) := by
  refine LOOP_rule (fun (s : Int32 × Mem) o => G X ad mi_MD_firstNames (φV) 2 [(0, .ref (ad 33)), (1, .int s.1)] [] s.2 o) (fun _ => G_none) (fun ag hag s => ?_)
  obtain ⟨v1_1, M1⟩ := s
  show G X ad mi_MD_firstNames (φV) 2 [(0, .ref (ad 33)), (1, .int v1_1)] [] M1 (MD_firstNames_L2 kx ag v1_1 M1)
  unfold MD_firstNames_L2
  refine G_iload_n dX10_firstNames_2 1 rfl ?_
  refine G_bipush (v := 7) dX10_firstNames_3 rfl ?_
  refine G_icmp_ge 21 dX10_firstNames_5 (by decide) (fun _ => ?_) (fun _ => ?_)
  refine G_sub [] rfl ?_
  exact hkx M1
  refine G_aload_n dX10_firstNames_8 0 rfl ?_
  refine G_getR hclX10 (by decide) rfl 26 (by decide) rfl wd_922 dX10_firstNames_9 ?_
  refine G_iload_n dX10_firstNames_12 1 rfl ?_
  refine G_iload_n dX10_firstNames_13 1 rfl ?_
  refine G_iast (by decide) rfl dX10_firstNames_14 (fun M2 => ?_)
  refine G_iinc (v1_1 + 1) dX10_firstNames_15 1 rfl rfl (by decide) (L' := [(1, .int (v1_1 + 1)), (0, .ref (ad 33))]) rfl ?_
  refine G_goto 2 dX10_firstNames_18 (by decide) ?_
  refine G_sub [1, 0] rfl ?_
  exact hag (v1_1 + 1, M2)

set_option maxRecDepth 100000 in
set_option maxHeartbeats 4000000 in
theorem m_MD_firstNames (M : Mem) : MC mi_MD_firstNames (φV) (fun ad => [.ref (ad 33)]) M (MD_firstNames M) := by
  refine MC_of rfl (by decide +kernel) (fun ad => [(0, .ref (ad 33))]) (fun _ => rfl) (fun _ => Nat.le_of_ble_eq_true rfl) (fun X ad => ?_)
  show G X ad mi_MD_firstNames (φV) 0 [(0, .ref (ad 33))] [] M _
  unfold MD_firstNames
  refine G_iconst (v := 0) dX10_firstNames_0 rfl ?_
  refine G_istore_n 1 rfl dX10_firstNames_1 (by decide) (L' := [(1, .int 0), (0, .ref (ad 33))]) rfl ?_
  refine G_sub [1, 0] rfl ?_
  refine w_MD_firstNames_L2 X ad _ (fun M3 => ?_) _ _
  exact G_return rfl rfl dX10_firstNames_21 rfl

set_option maxRecDepth 100000 in
set_option maxHeartbeats 4000000 in
theorem w_MD_nextNames_L4 (X : Cx) (ad : Nat → Nat) (v1_1 : Int32) (M : Mem) (kx : Int32 → Option (Int32 × Mem)) (hkx : ∀ (e2 : Int32), G X ad mi_MD_nextNames (φIM) 31 [(0, .ref (ad 33)), (1, .int v1_1), (2, .int e2)] [] M (kx e2)) : ∀ (n : Nat) (s : Int32), G X ad mi_MD_nextNames (φIM) 4 [(0, .ref (ad 33)), (1, .int v1_1), (2, .int s)] [] M (LOOP (fun aq sq => MD_nextNames_L4 M kx aq sq) n s) := by
  refine LOOP_rule (fun (s : Int32) o => G X ad mi_MD_nextNames (φIM) 4 [(0, .ref (ad 33)), (1, .int v1_1), (2, .int s)] [] M o) (fun _ => G_none) (fun ag hag v2_2 => ?_)
  show G X ad mi_MD_nextNames (φIM) 4 [(0, .ref (ad 33)), (1, .int v1_1), (2, .int v2_2)] [] M (MD_nextNames_L4 M kx ag v2_2)
  unfold MD_nextNames_L4
  refine G_iload_n dX10_nextNames_4 2 rfl ?_
  refine G_if_lt 31 dX10_nextNames_5 (by decide) (fun _ => ?_) (fun _ => ?_)
  refine G_sub [0, 1, 2] rfl ?_
  exact hkx v2_2
  refine G_aload_n dX10_nextNames_8 0 rfl ?_
  refine G_getR hclX10 (by decide) rfl 26 (by decide) rfl wd_922 dX10_nextNames_9 ?_
  refine G_iload_n dX10_nextNames_12 2 rfl ?_
  refine G_iald (by decide) rfl dX10_nextNames_13 ?_
  refine G_aload_n dX10_nextNames_14 0 rfl ?_
  refine G_getR hclX10 (by decide) rfl 26 (by decide) rfl wd_922 dX10_nextNames_15 ?_
  refine G_iload_n dX10_nextNames_18 2 rfl ?_
  refine G_iconst (v := 1) dX10_nextNames_19 rfl ?_
  refine G_iadd dX10_nextNames_20 ?_
  refine G_iald (by decide) rfl dX10_nextNames_21 ?_
  refine G_icmp_le 31 dX10_nextNames_22 (by decide) (fun _ => ?_) (fun _ => ?_)
  refine G_sub [0, 1, 2] rfl ?_
  exact hkx v2_2
  refine G_iinc (v2_2 + (-1)) dX10_nextNames_25 2 rfl rfl (by decide) (L' := [(2, .int (v2_2 + (-1))), (0, .ref (ad 33)), (1, .int v1_1)]) rfl ?_
  refine G_goto 4 dX10_nextNames_28 (by decide) ?_
  refine G_sub [1, 2, 0] rfl ?_
  exact hag (v2_2 + (-1))

set_option maxRecDepth 100000 in
set_option maxHeartbeats 4000000 in
theorem w_MD_nextNames_L41 (X : Cx) (ad : Nat → Nat) (v1_2 : Int32) (v2_4 : Int32) (M : Mem) (kx : Int32 → Option (Int32 × Mem)) (hkx : ∀ (e3 : Int32), G X ad mi_MD_nextNames (φIM) 62 [(0, .ref (ad 33)), (1, .int v1_2), (2, .int v2_4), (3, .int e3)] [] M (kx e3)) : ∀ (n : Nat) (s : Int32), G X ad mi_MD_nextNames (φIM) 41 [(0, .ref (ad 33)), (1, .int v1_2), (2, .int v2_4), (3, .int s)] [] M (LOOP (fun aq sq => MD_nextNames_L41 v2_4 M kx aq sq) n s) := by
  refine LOOP_rule (fun (s : Int32) o => G X ad mi_MD_nextNames (φIM) 41 [(0, .ref (ad 33)), (1, .int v1_2), (2, .int v2_4), (3, .int s)] [] M o) (fun _ => G_none) (fun ag hag v3_2 => ?_)
  show G X ad mi_MD_nextNames (φIM) 41 [(0, .ref (ad 33)), (1, .int v1_2), (2, .int v2_4), (3, .int v3_2)] [] M (MD_nextNames_L41 v2_4 M kx ag v3_2)
  unfold MD_nextNames_L41
  refine G_aload_n dX10_nextNames_41 0 rfl ?_
  refine G_getR hclX10 (by decide) rfl 26 (by decide) rfl wd_922 dX10_nextNames_42 ?_
  refine G_iload_n dX10_nextNames_45 3 rfl ?_
  refine G_iald (by decide) rfl dX10_nextNames_46 ?_
  refine G_aload_n dX10_nextNames_47 0 rfl ?_
  refine G_getR hclX10 (by decide) rfl 26 (by decide) rfl wd_922 dX10_nextNames_48 ?_
  refine G_iload_n dX10_nextNames_51 2 rfl ?_
  refine G_iald (by decide) rfl dX10_nextNames_52 ?_
  refine G_icmp_ge 62 dX10_nextNames_53 (by decide) (fun _ => ?_) (fun _ => ?_)
  refine G_sub [0, 1, 2, 3] rfl ?_
  exact hkx v3_2
  refine G_iinc (v3_2 + (-1)) dX10_nextNames_56 3 rfl rfl (by decide) (L' := [(3, .int (v3_2 + (-1))), (0, .ref (ad 33)), (1, .int v1_2), (2, .int v2_4)]) rfl ?_
  refine G_goto 41 dX10_nextNames_59 (by decide) ?_
  refine G_sub [1, 2, 3, 0] rfl ?_
  exact hag (v3_2 + (-1))

set_option maxRecDepth 100000 in
set_option maxHeartbeats 4000000 in
theorem w_MD_nextNames_L100 (X : Cx) (ad : Nat → Nat) (kx : Mem → Option (Int32 × Mem)) (hkx : ∀ (Me : Mem), G X ad mi_MD_nextNames (φIM) 148 [] [] Me (kx Me)) : ∀ (n : Nat) (s : Int32 × Int32 × Mem), G X ad mi_MD_nextNames (φIM) 100 [(0, .ref (ad 33)), (5, .int s.1), (6, .int s.2.1)] [] s.2.2 (LOOP (fun aq sq => MD_nextNames_L100 kx aq sq.1 sq.2.1 sq.2.2) n s) := by
  refine LOOP_rule (fun (s : Int32 × Int32 × Mem) o => G X ad mi_MD_nextNames (φIM) 100 [(0, .ref (ad 33)), (5, .int s.1), (6, .int s.2.1)] [] s.2.2 o) (fun _ => G_none) (fun ag hag s => ?_)
  obtain ⟨v5_2, v6_2, M3⟩ := s
  show G X ad mi_MD_nextNames (φIM) 100 [(0, .ref (ad 33)), (5, .int v5_2), (6, .int v6_2)] [] M3 (MD_nextNames_L100 kx ag v5_2 v6_2 M3)
  unfold MD_nextNames_L100
  refine G_iload dX10_nextNames_100 1 rfl ?_
  refine G_iload dX10_nextNames_102 2 rfl ?_
  refine G_icmp_ge 148 dX10_nextNames_104 (by decide) (fun _ => ?_) (fun _ => ?_)
  refine G_sub [] rfl ?_
  exact hkx M3
  refine G_aload_n dX10_nextNames_107 0 rfl ?_
  refine G_getR hclX10 (by decide) rfl 26 (by decide) rfl wd_922 dX10_nextNames_108 ?_
  refine G_iload dX10_nextNames_111 1 rfl ?_
  refine G_iald (by decide) rfl dX10_nextNames_113 ?_
  refine G_nmI (fun v4_2 => ?_)
  refine G_istore dX10_nextNames_114 (by decide) (L' := [(4, .int v4_2), (0, .ref (ad 33)), (5, .int v5_2), (6, .int v6_2)]) rfl ?_
  refine G_aload_n dX10_nextNames_116 1 rfl ?_
  refine G_getR hclX10 (by decide) rfl 26 (by decide) rfl wd_922 dX10_nextNames_117 ?_
  refine G_iload dX10_nextNames_120 2 rfl ?_
  refine G_aload_n dX10_nextNames_122 1 rfl ?_
  refine G_getR hclX10 (by decide) rfl 26 (by decide) rfl wd_922 dX10_nextNames_123 ?_
  refine G_iload dX10_nextNames_126 3 rfl ?_
  refine G_iald (by decide) rfl dX10_nextNames_128 ?_
  refine G_iast (by decide) rfl dX10_nextNames_129 (fun M4 => ?_)
  refine G_aload_n dX10_nextNames_130 1 rfl ?_
  refine G_getR hclX10 (by decide) rfl 26 (by decide) rfl wd_922 dX10_nextNames_131 ?_
  refine G_iload dX10_nextNames_134 3 rfl ?_
  refine G_iload dX10_nextNames_136 0 rfl ?_
  refine G_iast (by decide) rfl dX10_nextNames_138 (fun M5 => ?_)
  refine G_iinc (v5_2 + 1) dX10_nextNames_139 2 rfl rfl (by decide) (L' := [(5, .int (v5_2 + 1)), (4, .int v4_2), (0, .ref (ad 33)), (6, .int v6_2)]) rfl ?_
  refine G_iinc (v6_2 + (-1)) dX10_nextNames_142 3 rfl rfl (by decide) (L' := [(6, .int (v6_2 + (-1))), (5, .int (v5_2 + 1)), (4, .int v4_2), (0, .ref (ad 33))]) rfl ?_
  refine G_goto 100 dX10_nextNames_145 (by decide) ?_
  refine G_sub [3, 1, 0] rfl ?_
  exact hag (v5_2 + 1, v6_2 + (-1), M5)

set_option maxRecDepth 100000 in
set_option maxHeartbeats 4000000 in
theorem m_MD_nextNames (v1 : Int32) (M : Mem) : MC mi_MD_nextNames (φIM) (fun ad => [.ref (ad 33), .int v1]) M (MD_nextNames v1 M) := by
  refine MC_of rfl (by decide +kernel) (fun ad => [(0, .ref (ad 33)), (1, .int v1)]) (fun _ => rfl) (fun _ => Nat.le_of_ble_eq_true rfl) (fun X ad => ?_)
  show G X ad mi_MD_nextNames (φIM) 0 [(0, .ref (ad 33)), (1, .int v1)] [] M _
  unfold MD_nextNames
  refine G_iload_n dX10_nextNames_0 1 rfl ?_
  refine G_iconst (v := 2) dX10_nextNames_1 rfl ?_
  refine G_isub dX10_nextNames_2 ?_
  refine G_nmI (fun v2_1 => ?_)
  refine G_istore_n 2 rfl dX10_nextNames_3 (by decide) (L' := [(2, .int v2_1), (0, .ref (ad 33)), (1, .int v1)]) rfl ?_
  refine G_sub [1, 2, 0] rfl ?_
  refine w_MD_nextNames_L4 X ad v1 M _ (fun v2_3 => ?_) _ _
  refine G_iload_n dX10_nextNames_31 2 rfl ?_
  refine G_if_ge 37 dX10_nextNames_32 (by decide) (fun _ => ?_) (fun _ => ?_)
  refine G_iload_n dX10_nextNames_37 1 rfl ?_
  refine G_iconst (v := 1) dX10_nextNames_38 rfl ?_
  refine G_isub dX10_nextNames_39 ?_
  refine G_nmI (fun v3_1 => ?_)
  refine G_istore_n 3 rfl dX10_nextNames_40 (by decide) (L' := [(3, .int v3_1), (0, .ref (ad 33)), (1, .int v1), (2, .int v2_3)]) rfl ?_
  refine G_sub [1, 2, 3, 0] rfl ?_
  refine w_MD_nextNames_L41 X ad v1 v2_3 M _ (fun v3_3 => ?_) _ _
  refine G_aload_n dX10_nextNames_62 0 rfl ?_
  refine G_getR hclX10 (by decide) rfl 26 (by decide) rfl wd_922 dX10_nextNames_63 ?_
  refine G_iload_n dX10_nextNames_66 2 rfl ?_
  refine G_iald (by decide) rfl dX10_nextNames_67 ?_
  refine G_nmI (fun v4_1 => ?_)
  refine G_istore dX10_nextNames_68 (by decide) (L' := [(4, .int v4_1), (0, .ref (ad 33)), (1, .int v1), (2, .int v2_3), (3, .int v3_3)]) rfl ?_
  refine G_aload_n dX10_nextNames_70 1 rfl ?_
  refine G_getR hclX10 (by decide) rfl 26 (by decide) rfl wd_922 dX10_nextNames_71 ?_
  refine G_iload_n dX10_nextNames_74 3 rfl ?_
  refine G_aload_n dX10_nextNames_75 1 rfl ?_
  refine G_getR hclX10 (by decide) rfl 26 (by decide) rfl wd_922 dX10_nextNames_76 ?_
  refine G_iload_n dX10_nextNames_79 4 rfl ?_
  refine G_iald (by decide) rfl dX10_nextNames_80 ?_
  refine G_iast (by decide) rfl dX10_nextNames_81 (fun M1 => ?_)
  refine G_aload_n dX10_nextNames_82 1 rfl ?_
  refine G_getR hclX10 (by decide) rfl 26 (by decide) rfl wd_922 dX10_nextNames_83 ?_
  refine G_iload_n dX10_nextNames_86 4 rfl ?_
  refine G_iload dX10_nextNames_87 0 rfl ?_
  refine G_iast (by decide) rfl dX10_nextNames_89 (fun M2 => ?_)
  refine G_iload_n dX10_nextNames_90 3 rfl ?_
  refine G_iconst (v := 1) dX10_nextNames_91 rfl ?_
  refine G_iadd dX10_nextNames_92 ?_
  refine G_nmI (fun v5_1 => ?_)
  refine G_istore dX10_nextNames_93 (by decide) (L' := [(5, .int v5_1), (4, .int v4_1), (0, .ref (ad 33)), (1, .int v1), (2, .int v2_3), (3, .int v3_3)]) rfl ?_
  refine G_iload_n dX10_nextNames_95 3 rfl ?_
  refine G_iconst (v := 1) dX10_nextNames_96 rfl ?_
  refine G_isub dX10_nextNames_97 ?_
  refine G_nmI (fun v6_1 => ?_)
  refine G_istore dX10_nextNames_98 (by decide) (L' := [(6, .int v6_1), (5, .int v5_1), (4, .int v4_1), (0, .ref (ad 33)), (1, .int v1), (2, .int v2_3), (3, .int v3_3)]) rfl ?_
  refine G_sub [3, 1, 0] rfl ?_
  refine w_MD_nextNames_L100 X ad _ (fun M6 => ?_) _ _
  refine G_iconst (v := 1) dX10_nextNames_148 rfl ?_
  exact G_zreturn rfl rfl dX10_nextNames_149 rfl
  refine G_iconst (v := 0) dX10_nextNames_35 rfl ?_
  exact G_zreturn rfl rfl dX10_nextNames_36 rfl

set_option maxRecDepth 100000 in
set_option maxHeartbeats 4000000 in
theorem w_MD_isTurn_L44 (X : Cx) (ad : Nat → Nat) (v1_3 : Int32) (v2_2 : Int32) (M : Mem) (kx : Option Int32) (hkx : G X ad mi_MD_isTurn (φI M) 84 [(0, .ref (ad 33)), (1, .int v1_3), (2, .int v2_2)] [] M (kx)) : ∀ (n : Nat) (s : Int32), G X ad mi_MD_isTurn (φI M) 44 [(0, .ref (ad 33)), (1, .int v1_3), (2, .int v2_2), (3, .int s)] [] M (LOOP (fun aq sq => MD_isTurn_L44 v1_3 v2_2 M kx aq sq) n s) := by
  refine LOOP_rule (fun (s : Int32) o => G X ad mi_MD_isTurn (φI M) 44 [(0, .ref (ad 33)), (1, .int v1_3), (2, .int v2_2), (3, .int s)] [] M o) (fun _ => G_none) (fun ag hag v3_1 => ?_)
  show G X ad mi_MD_isTurn (φI M) 44 [(0, .ref (ad 33)), (1, .int v1_3), (2, .int v2_2), (3, .int v3_1)] [] M (MD_isTurn_L44 v1_3 v2_2 M kx ag v3_1)
  unfold MD_isTurn_L44
  refine G_iload_n dX10_isTurn_44 3 rfl ?_
  refine G_iconst (v := 3) dX10_isTurn_45 rfl ?_
  refine G_icmp_ge 84 dX10_isTurn_46 (by decide) (fun _ => ?_) (fun _ => ?_)
  refine G_sub [0, 1, 2] rfl ?_
  exact hkx
  refine G_aload_n dX10_isTurn_49 0 rfl ?_
  refine G_iload_n dX10_isTurn_50 3 rfl ?_
  refine G_iload_n dX10_isTurn_51 1 rfl ?_
  refine G_iload_n dX10_isTurn_52 2 rfl ?_
  refine G_callV_I (m_MD_strong _ _ _ M) cal_MD_strong ⟨Nat.le_of_ble_eq_true rfl, Nat.le_of_ble_eq_true rfl⟩ wd_1080 hclX10 (by decide) rfl [.int v3_1, .int v1_3, .int v2_2] rfl rfl rfl (Nat.le_of_ble_eq_true rfl) dX10_isTurn_53 (fun r_1 => ?_)
  refine G_aload_n dX10_isTurn_56 0 rfl ?_
  refine G_iload_n dX10_isTurn_57 3 rfl ?_
  refine G_aload_n dX10_isTurn_58 0 rfl ?_
  refine G_getR hclX10 (by decide) rfl 26 (by decide) rfl wd_922 dX10_isTurn_59 ?_
  refine G_iload_n dX10_isTurn_62 1 rfl ?_
  refine G_iald (by decide) rfl dX10_isTurn_63 ?_
  refine G_aload_n dX10_isTurn_64 0 rfl ?_
  refine G_getR hclX10 (by decide) rfl 26 (by decide) rfl wd_922 dX10_isTurn_65 ?_
  refine G_iload_n dX10_isTurn_68 2 rfl ?_
  refine G_iald (by decide) rfl dX10_isTurn_69 ?_
  refine G_callV_I (m_MD_strong _ _ _ M) cal_MD_strong ⟨Nat.le_of_ble_eq_true rfl, Nat.le_of_ble_eq_true rfl⟩ wd_1080 hclX10 (by decide) rfl [.int v3_1, .int (rd M 54 v1_3), .int (rd M 54 v2_2)] rfl rfl rfl (Nat.le_of_ble_eq_true rfl) dX10_isTurn_70 (fun r_2 => ?_)
  refine G_icmp_eq 78 dX10_isTurn_73 (by decide) (fun _ => ?_) (fun _ => ?_)
  refine G_iinc (v3_1 + 1) dX10_isTurn_78 3 rfl rfl (by decide) (L' := [(3, .int (v3_1 + 1)), (0, .ref (ad 33)), (1, .int v1_3), (2, .int v2_2)]) rfl ?_
  refine G_goto 44 dX10_isTurn_81 (by decide) ?_
  refine G_sub [1, 2, 3, 0] rfl ?_
  exact hag (v3_1 + 1)
  refine G_iconst (v := 0) dX10_isTurn_76 rfl ?_
  exact G_zreturn rfl rfl dX10_isTurn_77 rfl

set_option maxRecDepth 100000 in
set_option maxHeartbeats 4000000 in
theorem w_MD_isTurn_L34 (X : Cx) (ad : Nat → Nat) (v1_2 : Int32) (M : Mem) (kx : Option Int32) (hkx : G X ad mi_MD_isTurn (φI M) 90 [(0, .ref (ad 33)), (1, .int v1_2)] [] M (kx)) : ∀ (n : Nat) (s : Int32), G X ad mi_MD_isTurn (φI M) 34 [(0, .ref (ad 33)), (1, .int v1_2), (2, .int s)] [] M (LOOP (fun aq sq => MD_isTurn_L34 v1_2 M kx aq sq) n s) := by
  refine LOOP_rule (fun (s : Int32) o => G X ad mi_MD_isTurn (φI M) 34 [(0, .ref (ad 33)), (1, .int v1_2), (2, .int s)] [] M o) (fun _ => G_none) (fun ag hag v2_1 => ?_)
  show G X ad mi_MD_isTurn (φI M) 34 [(0, .ref (ad 33)), (1, .int v1_2), (2, .int v2_1)] [] M (MD_isTurn_L34 v1_2 M kx ag v2_1)
  unfold MD_isTurn_L34
  refine G_iload_n dX10_isTurn_34 2 rfl ?_
  refine G_aload_n dX10_isTurn_35 0 rfl ?_
  refine G_getI hclX10 (by decide) rfl 8 (by decide) rfl wd_904 dX10_isTurn_36 ?_
  refine G_icmp_ge 90 dX10_isTurn_39 (by decide) (fun _ => ?_) (fun _ => ?_)
  refine G_sub [0, 1] rfl ?_
  exact hkx
  refine G_iconst (v := 0) dX10_isTurn_42 rfl ?_
  refine G_istore_n 3 rfl dX10_isTurn_43 (by decide) (L' := [(3, .int 0), (0, .ref (ad 33)), (1, .int v1_2), (2, .int v2_1)]) rfl ?_
  refine G_sub [1, 2, 3, 0] rfl ?_
  refine w_MD_isTurn_L44 X ad v1_2 v2_1 M _ ?_ _ _
  refine G_iinc (v2_1 + 1) dX10_isTurn_84 2 rfl rfl (by decide) (L' := [(2, .int (v2_1 + 1)), (0, .ref (ad 33)), (1, .int v1_2)]) rfl ?_
  refine G_goto 34 dX10_isTurn_87 (by decide) ?_
  refine G_sub [1, 2, 0] rfl ?_
  exact hag (v2_1 + 1)

set_option maxRecDepth 100000 in
set_option maxHeartbeats 4000000 in
theorem w_MD_isTurn_L2 (X : Cx) (ad : Nat → Nat) (M : Mem) (kx : Option Int32) (hkx : G X ad mi_MD_isTurn (φI M) 96 [] [] M (kx)) : ∀ (n : Nat) (s : Int32), G X ad mi_MD_isTurn (φI M) 2 [(0, .ref (ad 33)), (1, .int s)] [] M (LOOP (fun aq sq => MD_isTurn_L2 M kx aq sq) n s) := by
  refine LOOP_rule (fun (s : Int32) o => G X ad mi_MD_isTurn (φI M) 2 [(0, .ref (ad 33)), (1, .int s)] [] M o) (fun _ => G_none) (fun ag hag v1_1 => ?_)
  show G X ad mi_MD_isTurn (φI M) 2 [(0, .ref (ad 33)), (1, .int v1_1)] [] M (MD_isTurn_L2 M kx ag v1_1)
  unfold MD_isTurn_L2
  refine G_iload_n dX10_isTurn_2 1 rfl ?_
  refine G_aload_n dX10_isTurn_3 0 rfl ?_
  refine G_getI hclX10 (by decide) rfl 8 (by decide) rfl wd_904 dX10_isTurn_4 ?_
  refine G_icmp_ge 96 dX10_isTurn_7 (by decide) (fun _ => ?_) (fun _ => ?_)
  refine G_sub [] rfl ?_
  exact hkx
  refine G_aload_n dX10_isTurn_10 0 rfl ?_
  refine G_getR hclX10 (by decide) rfl 1 (by decide) rfl wd_897 dX10_isTurn_11 ?_
  refine G_iload_n dX10_isTurn_14 1 rfl ?_
  refine G_iald (by decide) rfl dX10_isTurn_15 ?_
  refine G_aload_n dX10_isTurn_16 0 rfl ?_
  refine G_getR hclX10 (by decide) rfl 1 (by decide) rfl wd_897 dX10_isTurn_17 ?_
  refine G_aload_n dX10_isTurn_20 0 rfl ?_
  refine G_getR hclX10 (by decide) rfl 26 (by decide) rfl wd_922 dX10_isTurn_21 ?_
  refine G_iload_n dX10_isTurn_24 1 rfl ?_
  refine G_iald (by decide) rfl dX10_isTurn_25 ?_
  refine G_iald (by decide) rfl dX10_isTurn_26 ?_
  refine G_icmp_eq 32 dX10_isTurn_27 (by decide) (fun _ => ?_) (fun _ => ?_)
  refine G_iconst (v := 0) dX10_isTurn_32 rfl ?_
  refine G_istore_n 2 rfl dX10_isTurn_33 (by decide) (L' := [(2, .int 0), (0, .ref (ad 33)), (1, .int v1_1)]) rfl ?_
  refine G_sub [1, 2, 0] rfl ?_
  refine w_MD_isTurn_L34 X ad v1_1 M _ ?_ _ _
  refine G_iinc (v1_1 + 1) dX10_isTurn_90 1 rfl rfl (by decide) (L' := [(1, .int (v1_1 + 1)), (0, .ref (ad 33))]) rfl ?_
  refine G_goto 2 dX10_isTurn_93 (by decide) ?_
  refine G_sub [1, 0] rfl ?_
  exact hag (v1_1 + 1)
  refine G_iconst (v := 0) dX10_isTurn_30 rfl ?_
  exact G_zreturn rfl rfl dX10_isTurn_31 rfl

set_option maxRecDepth 100000 in
set_option maxHeartbeats 4000000 in
theorem m_MD_isTurn (M : Mem) : MC mi_MD_isTurn (φI M) (fun ad => [.ref (ad 33)]) M (MD_isTurn M) := by
  refine MC_of rfl (by decide +kernel) (fun ad => [(0, .ref (ad 33))]) (fun _ => rfl) (fun _ => Nat.le_of_ble_eq_true rfl) (fun X ad => ?_)
  show G X ad mi_MD_isTurn (φI M) 0 [(0, .ref (ad 33))] [] M _
  unfold MD_isTurn
  refine G_iconst (v := 0) dX10_isTurn_0 rfl ?_
  refine G_istore_n 1 rfl dX10_isTurn_1 (by decide) (L' := [(1, .int 0), (0, .ref (ad 33))]) rfl ?_
  refine G_sub [1, 0] rfl ?_
  refine w_MD_isTurn_L2 X ad M _ ?_ _ _
  refine G_iconst (v := 1) dX10_isTurn_96 rfl ?_
  exact G_zreturn rfl rfl dX10_isTurn_97 rfl

set_option maxRecDepth 100000 in
set_option maxHeartbeats 4000000 in
theorem w_MD_findTurns_L10 (X : Cx) (ad : Nat → Nat) (kx : Mem → Option (Int32 × Mem)) (hkx : ∀ (Me : Mem), G X ad mi_MD_findTurns (φIM) 29 [(0, .ref (ad 33))] [] Me (kx Me)) : ∀ (n : Nat) (s : Int32 × Mem), G X ad mi_MD_findTurns (φIM) 10 [(0, .ref (ad 33)), (1, .int s.1)] [] s.2 (LOOP (fun aq sq => MD_findTurns_L10 kx aq sq.1 sq.2) n s) := by
  refine LOOP_rule (fun (s : Int32 × Mem) o => G X ad mi_MD_findTurns (φIM) 10 [(0, .ref (ad 33)), (1, .int s.1)] [] s.2 o) (fun _ => G_none) (fun ag hag s => ?_)
  obtain ⟨v1_1, M2⟩ := s
  show G X ad mi_MD_findTurns (φIM) 10 [(0, .ref (ad 33)), (1, .int v1_1)] [] M2 (MD_findTurns_L10 kx ag v1_1 M2)
  unfold MD_findTurns_L10
  refine G_iload_n dX10_findTurns_10 1 rfl ?_
  refine G_bipush (v := 49) dX10_findTurns_11 rfl ?_
  refine G_icmp_ge 29 dX10_findTurns_13 (by decide) (fun _ => ?_) (fun _ => ?_)
  refine G_sub [0] rfl ?_
  exact hkx M2
  refine G_aload_n dX10_findTurns_16 0 rfl ?_
  refine G_getR hclX10 (by decide) rfl 29 (by decide) rfl wd_925 dX10_findTurns_17 ?_
  refine G_iload_n dX10_findTurns_20 1 rfl ?_
  refine G_iconst (v := 0) dX10_findTurns_21 rfl ?_
  refine G_zast (by decide) rfl dX10_findTurns_22 (fun M3 => ?_)
  refine G_iinc (v1_1 + 1) dX10_findTurns_23 1 rfl rfl (by decide) (L' := [(1, .int (v1_1 + 1)), (0, .ref (ad 33))]) rfl ?_
  refine G_goto 10 dX10_findTurns_26 (by decide) ?_
  refine G_sub [1, 0] rfl ?_
  exact hag (v1_1 + 1, M3)

set_option maxRecDepth 100000 in
set_option maxHeartbeats 4000000 in
theorem w_MD_findTurns_L53 (X : Cx) (ad : Nat → Nat) (v1_4 : Int32) (kx : Mem → Option (Int32 × Mem)) (hkx : ∀ (Me : Mem), G X ad mi_MD_findTurns (φIM) 84 [(0, .ref (ad 33)), (1, .int v1_4)] [] Me (kx Me)) : ∀ (n : Nat) (s : Int32 × Mem), G X ad mi_MD_findTurns (φIM) 53 [(0, .ref (ad 33)), (1, .int v1_4), (3, .int s.1)] [] s.2 (LOOP (fun aq sq => MD_findTurns_L53 kx aq sq.1 sq.2) n s) := by
  refine LOOP_rule (fun (s : Int32 × Mem) o => G X ad mi_MD_findTurns (φIM) 53 [(0, .ref (ad 33)), (1, .int v1_4), (3, .int s.1)] [] s.2 o) (fun _ => G_none) (fun ag hag s => ?_)
  obtain ⟨v3_1, M9⟩ := s
  show G X ad mi_MD_findTurns (φIM) 53 [(0, .ref (ad 33)), (1, .int v1_4), (3, .int v3_1)] [] M9 (MD_findTurns_L53 kx ag v3_1 M9)
  unfold MD_findTurns_L53
  refine G_iload_n dX10_findTurns_53 2 rfl ?_
  refine G_aload_n dX10_findTurns_54 0 rfl ?_
  refine G_getI hclX10 (by decide) rfl 8 (by decide) rfl wd_904 dX10_findTurns_55 ?_
  refine G_icmp_ge 84 dX10_findTurns_58 (by decide) (fun _ => ?_) (fun _ => ?_)
  refine G_sub [0, 1] rfl ?_
  exact hkx M9
  refine G_aload_n dX10_findTurns_61 0 rfl ?_
  refine G_getR hclX10 (by decide) rfl 29 (by decide) rfl wd_925 dX10_findTurns_62 ?_
  refine G_bipush (v := 7) dX10_findTurns_65 rfl ?_
  refine G_iload_n dX10_findTurns_67 2 rfl ?_
  refine G_imul dX10_findTurns_68 ?_
  refine G_aload_n dX10_findTurns_69 0 rfl ?_
  refine G_getR hclX10 (by decide) rfl 26 (by decide) rfl wd_922 dX10_findTurns_70 ?_
  refine G_iload_n dX10_findTurns_73 2 rfl ?_
  refine G_iald (by decide) rfl dX10_findTurns_74 ?_
  refine G_iadd dX10_findTurns_75 ?_
  refine G_iconst (v := 1) dX10_findTurns_76 rfl ?_
  refine G_zast (by decide) rfl dX10_findTurns_77 (fun M10 => ?_)
  refine G_iinc (v3_1 + 1) dX10_findTurns_78 2 rfl rfl (by decide) (L' := [(3, .int (v3_1 + 1)), (0, .ref (ad 33)), (1, .int v1_4)]) rfl ?_
  refine G_goto 53 dX10_findTurns_81 (by decide) ?_
  refine G_sub [1, 2, 0] rfl ?_
  exact hag (v3_1 + 1, M10)

set_option maxRecDepth 100000 in
set_option maxHeartbeats 4000000 in
theorem w_MD_findTurns_L37 (X : Cx) (ad : Nat → Nat) (kx : Int32 → Mem → Option (Int32 × Mem)) (hkx : ∀ (e1 : Int32) (Me : Mem), G X ad mi_MD_findTurns (φIM) 96 [(1, .int e1)] [] Me (kx e1 Me)) : ∀ (n : Nat) (s : Int32 × Int32 × Mem), G X ad mi_MD_findTurns (φIM) 37 [(0, .ref (ad 33)), (1, .int s.1), (2, .int s.2.1)] [] s.2.2 (LOOP (fun aq sq => MD_findTurns_L37 kx aq sq.1 sq.2.1 sq.2.2) n s) := by
  refine LOOP_rule (fun (s : Int32 × Int32 × Mem) o => G X ad mi_MD_findTurns (φIM) 37 [(0, .ref (ad 33)), (1, .int s.1), (2, .int s.2.1)] [] s.2.2 o) (fun _ => G_none) (fun ag hag s => ?_)
  obtain ⟨v1_2, v2_1, M6⟩ := s
  show G X ad mi_MD_findTurns (φIM) 37 [(0, .ref (ad 33)), (1, .int v1_2), (2, .int v2_1)] [] M6 (MD_findTurns_L37 kx ag v1_2 v2_1 M6)
  unfold MD_findTurns_L37
  refine G_iload_n dX10_findTurns_37 2 rfl ?_
  refine G_if_eq 96 dX10_findTurns_38 (by decide) (fun _ => ?_) (fun _ => ?_)
  refine G_sub [1] rfl ?_
  exact hkx v1_2 M6
  refine G_aload_n dX10_findTurns_41 0 rfl ?_
  refine G_callV_I (m_MD_isTurn M6) cal_MD_isTurn ⟨Nat.le_of_ble_eq_true rfl, Nat.le_of_ble_eq_true rfl⟩ wd_1154 hclX10 (by decide) rfl [] rfl rfl rfl (Nat.le_of_ble_eq_true rfl) dX10_findTurns_42 (fun r_1 => ?_)
  refine G_jp (fun kq => ∀ (v1_3 : Int32) (M7 : Mem), G X ad mi_MD_findTurns (φIM) 84 [(0, .ref (ad 33)), (1, .int v1_3)] [] M7 (kq v1_3 M7)) (fun v1_3 M7 => ?_) (fun k_1 hk_1 => ?_)
  refine G_aload_n dX10_findTurns_84 0 rfl ?_
  refine G_aload_n dX10_findTurns_85 0 rfl ?_
  refine G_getI hclX10 (by decide) rfl 8 (by decide) rfl wd_904 dX10_findTurns_86 ?_
  refine G_callV_IM (m_MD_nextNames _ M7) cal_MD_nextNames ⟨Nat.le_of_ble_eq_true rfl, Nat.le_of_ble_eq_true rfl⟩ wd_1158 hclX10 (by decide) rfl [.int (M7 33 8)] rfl rfl rfl (Nat.le_of_ble_eq_true rfl) dX10_findTurns_89 (fun r_2 M8 => ?_)
  refine G_istore_n 2 rfl dX10_findTurns_92 (by decide) (L' := [(2, .int r_2), (0, .ref (ad 33)), (1, .int v1_3)]) rfl ?_
  refine G_goto 37 dX10_findTurns_93 (by decide) ?_
  refine G_sub [1, 2, 0] rfl ?_
  exact hag (v1_3, r_2, M8)
  refine G_if_eq 84 dX10_findTurns_45 (by decide) (fun _ => ?_) (fun _ => ?_)
  refine G_sub [0, 1] rfl ?_
  exact hk_1 v1_2 M6
  refine G_iinc (v1_2 + 1) dX10_findTurns_48 1 rfl rfl (by decide) (L' := [(1, .int (v1_2 + 1)), (0, .ref (ad 33)), (2, .int v2_1)]) rfl ?_
  refine G_iconst (v := 0) dX10_findTurns_51 rfl ?_
  refine G_istore_n 3 rfl dX10_findTurns_52 (by decide) (L' := [(3, .int 0), (1, .int (v1_2 + 1)), (0, .ref (ad 33)), (2, .int v2_1)]) rfl ?_
  refine G_sub [2, 1, 0] rfl ?_
  refine w_MD_findTurns_L53 X ad (v1_2 + 1) _ (fun M11 => ?_) _ _
  refine G_sub [0, 1] rfl ?_
  exact hk_1 (v1_2 + 1) M11

set_option maxRecDepth 100000 in
set_option maxHeartbeats 4000000 in
theorem m_MD_findTurns (M : Mem) : MC mi_MD_findTurns (φIM) (fun ad => [.ref (ad 33)]) M (MD_findTurns M) := by
  refine MC_of rfl (by decide +kernel) (fun ad => [(0, .ref (ad 33))]) (fun _ => rfl) (fun _ => Nat.le_of_ble_eq_true rfl) (fun X ad => ?_)
  show G X ad mi_MD_findTurns (φIM) 0 [(0, .ref (ad 33))] [] M _
  unfold MD_findTurns
  refine G_aload_n dX10_findTurns_0 0 rfl ?_
  refine G_aload_n dX10_findTurns_1 0 rfl ?_
  refine G_getI hclX10 (by decide) rfl 10 (by decide) rfl wd_906 dX10_findTurns_2 ?_
  refine G_callV_V (m_MD_findTies _ M) cal_MD_findTies ⟨Nat.le_of_ble_eq_true rfl, Nat.le_of_ble_eq_true rfl⟩ wd_1076 hclX10 (by decide) rfl [.int (M 33 10)] rfl rfl rfl (Nat.le_of_ble_eq_true rfl) dX10_findTurns_5 (fun M1 => ?_)
  refine G_iconst (v := 0) dX10_findTurns_8 rfl ?_
  refine G_istore_n 1 rfl dX10_findTurns_9 (by decide) (L' := [(1, .int 0), (0, .ref (ad 33))]) rfl ?_
  refine G_sub [1, 0] rfl ?_
  refine w_MD_findTurns_L10 X ad _ (fun M4 => ?_) _ _
  refine G_iconst (v := 0) dX10_findTurns_29 rfl ?_
  refine G_istore_n 1 rfl dX10_findTurns_30 (by decide) (L' := [(1, .int 0), (0, .ref (ad 33))]) rfl ?_
  refine G_aload_n dX10_findTurns_31 1 rfl ?_
  refine G_callV_V (m_MD_firstNames M4) cal_MD_firstNames ⟨Nat.le_of_ble_eq_true rfl, Nat.le_of_ble_eq_true rfl⟩ wd_1150 hclX10 (by decide) rfl [] rfl rfl rfl (Nat.le_of_ble_eq_true rfl) dX10_findTurns_32 (fun M5 => ?_)
  refine G_iconst (v := 1) dX10_findTurns_35 rfl ?_
  refine G_istore_n 2 rfl dX10_findTurns_36 (by decide) (L' := [(2, .int 1), (1, .int 0), (0, .ref (ad 33))]) rfl ?_
  refine G_sub [2, 1, 0] rfl ?_
  refine w_MD_findTurns_L37 X ad _ (fun v1_5 M12 => ?_) _ _
  refine G_iload_n dX10_findTurns_96 0 rfl ?_
  exact G_ireturn rfl rfl dX10_findTurns_97 rfl

set_option maxRecDepth 100000 in
set_option maxHeartbeats 4000000 in
theorem m_MD_renamings (M : Mem) : MC mi_MD_renamings (φIM) (fun ad => [.ref (ad 33)]) M (MD_renamings M) := by
  refine MC_of rfl (by decide +kernel) (fun ad => [(0, .ref (ad 33))]) (fun _ => rfl) (fun _ => Nat.le_of_ble_eq_true rfl) (fun X ad => ?_)
  show G X ad mi_MD_renamings (φIM) 0 [(0, .ref (ad 33))] [] M _
  unfold MD_renamings
  refine G_aload_n dX10_renamings_0 0 rfl ?_
  refine G_callV_IM (m_MD_findTurns M) cal_MD_findTurns ⟨Nat.le_of_ble_eq_true rfl, Nat.le_of_ble_eq_true rfl⟩ wd_1146 hclX10 (by decide) rfl [] rfl rfl rfl (Nat.le_of_ble_eq_true rfl) dX10_renamings_1 (fun r_1 M1 => ?_)
  exact G_ireturn rfl rfl dX10_renamings_4 rfl

set_option maxRecDepth 100000 in
set_option maxHeartbeats 4000000 in
theorem m_MD_moves (v1 : Int32) (v2 : Int32) (M : Mem) : MC mi_MD_moves (φIM) (fun ad => [.ref (ad 33), .int v1, .int v2]) M (MD_moves v1 v2 M) := by
  refine MC_of rfl (by decide +kernel) (fun ad => [(0, .ref (ad 33)), (1, .int v1), (2, .int v2)]) (fun _ => rfl) (fun _ => Nat.le_of_ble_eq_true rfl) (fun X ad => ?_)
  show G X ad mi_MD_moves (φIM) 0 [(0, .ref (ad 33)), (1, .int v1), (2, .int v2)] [] M _
  unfold MD_moves
  refine G_aload_n dX10_moves_0 0 rfl ?_
  refine G_iload_n dX10_moves_1 1 rfl ?_
  refine G_callV_I (m_MD_isPerson _ M) cal_MD_isPerson ⟨Nat.le_of_ble_eq_true rfl, Nat.le_of_ble_eq_true rfl⟩ wd_1016 hclX10 (by decide) rfl [.int v1] rfl rfl rfl (Nat.le_of_ble_eq_true rfl) dX10_moves_2 (fun r_1 => ?_)
  refine G_jp (fun kq => G X ad mi_MD_moves (φIM) 16 [(0, .ref (ad 33))] [] M (kq)) ?_ (fun k_1 hk_1 => ?_)
  refine G_aload_n dX10_moves_16 0 rfl ?_
  refine G_iconst (v := -1) dX10_moves_17 rfl ?_
  refine G_callV_IM (m_MD_no _ M) cal_MD_no ⟨Nat.le_of_ble_eq_true rfl, Nat.le_of_ble_eq_true rfl⟩ wd_1008 hclX10 (by decide) rfl [.int (-1)] rfl rfl rfl (Nat.le_of_ble_eq_true rfl) dX10_moves_18 (fun r_2 M1 => ?_)
  exact G_ireturn rfl rfl dX10_moves_21 rfl
  refine G_if_eq 16 dX10_moves_5 (by decide) (fun _ => ?_) (fun _ => ?_)
  refine G_sub [0] rfl ?_
  exact hk_1
  refine G_aload_n dX10_moves_8 0 rfl ?_
  refine G_iload_n dX10_moves_9 2 rfl ?_
  refine G_callV_I (m_MD_isPerson _ M) cal_MD_isPerson ⟨Nat.le_of_ble_eq_true rfl, Nat.le_of_ble_eq_true rfl⟩ wd_1016 hclX10 (by decide) rfl [.int v2] rfl rfl rfl (Nat.le_of_ble_eq_true rfl) dX10_moves_10 (fun r_3 => ?_)
  refine G_if_ne 22 dX10_moves_13 (by decide) (fun _ => ?_) (fun _ => ?_)
  refine G_sub [0] rfl ?_
  exact hk_1
  refine G_aload_n dX10_moves_22 0 rfl ?_
  refine G_callV_IM (m_MD_findTurns M) cal_MD_findTurns ⟨Nat.le_of_ble_eq_true rfl, Nat.le_of_ble_eq_true rfl⟩ wd_1146 hclX10 (by decide) rfl [] rfl rfl rfl (Nat.le_of_ble_eq_true rfl) dX10_moves_23 (fun r_4 M2 => ?_)
  refine G_pop dX10_moves_26 rfl ?_
  refine G_aload_n dX10_moves_27 0 rfl ?_
  refine G_getR hclX10 (by decide) rfl 29 (by decide) rfl wd_925 dX10_moves_28 ?_
  refine G_bipush (v := 7) dX10_moves_31 rfl ?_
  refine G_iload_n dX10_moves_33 1 rfl ?_
  refine G_imul dX10_moves_34 ?_
  refine G_iload_n dX10_moves_35 2 rfl ?_
  refine G_iadd dX10_moves_36 ?_
  refine G_zald (by decide) rfl dX10_moves_37 ?_
  refine G_if_eq 45 dX10_moves_38 (by decide) (fun _ => ?_) (fun _ => ?_)
  refine G_iconst (v := 0) dX10_moves_45 rfl ?_
  exact G_ireturn rfl rfl dX10_moves_46 rfl
  refine G_iconst (v := 1) dX10_moves_41 rfl ?_
  refine G_goto 46 dX10_moves_42 (by decide) ?_
  exact G_ireturn rfl rfl dX10_moves_46 rfl

set_option maxRecDepth 100000 in
set_option maxHeartbeats 4000000 in
theorem w_MD_orbits_L26 (X : Cx) (ad : Nat → Nat) (v1_2 : Int32) (kx : Mem → Option (Int32 × Mem)) (hkx : ∀ (Me : Mem), G X ad mi_MD_orbits (φIM) 66 [(0, .ref (ad 33)), (1, .int v1_2)] [] Me (kx Me)) : ∀ (n : Nat) (s : Int32 × Mem), G X ad mi_MD_orbits (φIM) 26 [(0, .ref (ad 33)), (1, .int v1_2), (2, .int s.1)] [] s.2 (LOOP (fun aq sq => MD_orbits_L26 v1_2 kx aq sq.1 sq.2) n s) := by
  refine LOOP_rule (fun (s : Int32 × Mem) o => G X ad mi_MD_orbits (φIM) 26 [(0, .ref (ad 33)), (1, .int v1_2), (2, .int s.1)] [] s.2 o) (fun _ => G_none) (fun ag hag s => ?_)
  obtain ⟨v2_2, M4⟩ := s
  show G X ad mi_MD_orbits (φIM) 26 [(0, .ref (ad 33)), (1, .int v1_2), (2, .int v2_2)] [] M4 (MD_orbits_L26 v1_2 kx ag v2_2 M4)
  unfold MD_orbits_L26
  refine G_iload_n dX10_orbits_26 2 rfl ?_
  refine G_if_lt 66 dX10_orbits_27 (by decide) (fun _ => ?_) (fun _ => ?_)
  refine G_sub [0, 1] rfl ?_
  exact hkx M4
  refine G_aload_n dX10_orbits_30 0 rfl ?_
  refine G_getR hclX10 (by decide) rfl 24 (by decide) rfl wd_920 dX10_orbits_31 ?_
  refine G_iload_n dX10_orbits_34 1 rfl ?_
  refine G_aload_n dX10_orbits_35 0 rfl ?_
  refine G_getR hclX10 (by decide) rfl 29 (by decide) rfl wd_925 dX10_orbits_36 ?_
  refine G_bipush (v := 7) dX10_orbits_39 rfl ?_
  refine G_iload_n dX10_orbits_41 1 rfl ?_
  refine G_imul dX10_orbits_42 ?_
  refine G_iload_n dX10_orbits_43 2 rfl ?_
  refine G_iadd dX10_orbits_44 ?_
  refine G_zald (by decide) rfl dX10_orbits_45 ?_
  refine G_if_eq 53 dX10_orbits_46 (by decide) (fun _ => ?_) (fun _ => ?_)
  refine G_aload_n dX10_orbits_53 0 rfl ?_
  refine G_getR hclX10 (by decide) rfl 24 (by decide) rfl wd_920 dX10_orbits_54 ?_
  refine G_iload_n dX10_orbits_57 1 rfl ?_
  refine G_iald (by decide) rfl dX10_orbits_58 ?_
  refine G_iast (by decide) rfl dX10_orbits_59 (fun M5 => ?_)
  refine G_iinc (v2_2 + (-1)) dX10_orbits_60 2 rfl rfl (by decide) (L' := [(2, .int (v2_2 + (-1))), (0, .ref (ad 33)), (1, .int v1_2)]) rfl ?_
  refine G_goto 26 dX10_orbits_63 (by decide) ?_
  refine G_sub [1, 2, 0] rfl ?_
  exact hag (v2_2 + (-1), M5)
  refine G_iload_n dX10_orbits_49 2 rfl ?_
  refine G_goto 59 dX10_orbits_50 (by decide) ?_
  refine G_iast (by decide) rfl dX10_orbits_59 (fun M6 => ?_)
  refine G_iinc (v2_2 + (-1)) dX10_orbits_60 2 rfl rfl (by decide) (L' := [(2, .int (v2_2 + (-1))), (0, .ref (ad 33)), (1, .int v1_2)]) rfl ?_
  refine G_goto 26 dX10_orbits_63 (by decide) ?_
  refine G_sub [1, 2, 0] rfl ?_
  exact hag (v2_2 + (-1), M6)

set_option maxRecDepth 100000 in
set_option maxHeartbeats 4000000 in
theorem w_MD_orbits_L7 (X : Cx) (ad : Nat → Nat) (kx : Mem → Option (Int32 × Mem)) (hkx : ∀ (Me : Mem), G X ad mi_MD_orbits (φIM) 72 [(0, .ref (ad 33))] [] Me (kx Me)) : ∀ (n : Nat) (s : Int32 × Mem), G X ad mi_MD_orbits (φIM) 7 [(0, .ref (ad 33)), (1, .int s.1)] [] s.2 (LOOP (fun aq sq => MD_orbits_L7 kx aq sq.1 sq.2) n s) := by
  refine LOOP_rule (fun (s : Int32 × Mem) o => G X ad mi_MD_orbits (φIM) 7 [(0, .ref (ad 33)), (1, .int s.1)] [] s.2 o) (fun _ => G_none) (fun ag hag s => ?_)
  obtain ⟨v1_1, M2⟩ := s
  show G X ad mi_MD_orbits (φIM) 7 [(0, .ref (ad 33)), (1, .int v1_1)] [] M2 (MD_orbits_L7 kx ag v1_1 M2)
  unfold MD_orbits_L7
  refine G_iload_n dX10_orbits_7 1 rfl ?_
  refine G_aload_n dX10_orbits_8 0 rfl ?_
  refine G_getI hclX10 (by decide) rfl 8 (by decide) rfl wd_904 dX10_orbits_9 ?_
  refine G_icmp_ge 72 dX10_orbits_12 (by decide) (fun _ => ?_) (fun _ => ?_)
  refine G_sub [0] rfl ?_
  exact hkx M2
  refine G_aload_n dX10_orbits_15 0 rfl ?_
  refine G_getR hclX10 (by decide) rfl 24 (by decide) rfl wd_920 dX10_orbits_16 ?_
  refine G_iload_n dX10_orbits_19 1 rfl ?_
  refine G_iload_n dX10_orbits_20 1 rfl ?_
  refine G_iast (by decide) rfl dX10_orbits_21 (fun M3 => ?_)
  refine G_iload_n dX10_orbits_22 1 rfl ?_
  refine G_iconst (v := 1) dX10_orbits_23 rfl ?_
  refine G_isub dX10_orbits_24 ?_
  refine G_nmI (fun v2_1 => ?_)
  refine G_istore_n 2 rfl dX10_orbits_25 (by decide) (L' := [(2, .int v2_1), (0, .ref (ad 33)), (1, .int v1_1)]) rfl ?_
  refine G_sub [1, 2, 0] rfl ?_
  refine w_MD_orbits_L26 X ad v1_1 _ (fun M7 => ?_) _ _
  refine G_iinc (v1_1 + 1) dX10_orbits_66 1 rfl rfl (by decide) (L' := [(1, .int (v1_1 + 1)), (0, .ref (ad 33))]) rfl ?_
  refine G_goto 7 dX10_orbits_69 (by decide) ?_
  refine G_sub [1, 0] rfl ?_
  exact hag (v1_1 + 1, M7)

set_option maxRecDepth 100000 in
set_option maxHeartbeats 4000000 in
theorem m_MD_orbits (M : Mem) : MC mi_MD_orbits (φIM) (fun ad => [.ref (ad 33)]) M (MD_orbits M) := by
  refine MC_of rfl (by decide +kernel) (fun ad => [(0, .ref (ad 33))]) (fun _ => rfl) (fun _ => Nat.le_of_ble_eq_true rfl) (fun X ad => ?_)
  show G X ad mi_MD_orbits (φIM) 0 [(0, .ref (ad 33))] [] M _
  unfold MD_orbits
  refine G_aload_n dX10_orbits_0 0 rfl ?_
  refine G_callV_IM (m_MD_findTurns M) cal_MD_findTurns ⟨Nat.le_of_ble_eq_true rfl, Nat.le_of_ble_eq_true rfl⟩ wd_1146 hclX10 (by decide) rfl [] rfl rfl rfl (Nat.le_of_ble_eq_true rfl) dX10_orbits_1 (fun r_1 M1 => ?_)
  refine G_pop dX10_orbits_4 rfl ?_
  refine G_iconst (v := 0) dX10_orbits_5 rfl ?_
  refine G_istore_n 1 rfl dX10_orbits_6 (by decide) (L' := [(1, .int 0), (0, .ref (ad 33))]) rfl ?_
  refine G_sub [1, 0] rfl ?_
  refine w_MD_orbits_L7 X ad _ (fun M8 => ?_) _ _
  refine G_aload_n dX10_orbits_72 0 rfl ?_
  refine G_aload_n dX10_orbits_73 0 rfl ?_
  refine G_getR hclX10 (by decide) rfl 24 (by decide) rfl wd_920 dX10_orbits_74 ?_
  refine G_callV_IM (m_MD_number 52 isA_52 M8) cal_MD_number ⟨Nat.le_of_ble_eq_true rfl, Nat.le_of_ble_eq_true rfl⟩ wd_1138 hclX10 (by decide) rfl [.ref (ad 52)] rfl rfl rfl (Nat.le_of_ble_eq_true rfl) dX10_orbits_77 (fun r_2 M9 => ?_)
  exact G_ireturn rfl rfl dX10_orbits_80 rfl

