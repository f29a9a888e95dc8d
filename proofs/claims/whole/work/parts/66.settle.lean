/-! by hand: wipe and settle while the rest isn't made yet -/
abbrev MP (X : Cx) (ws' : va_W) : State → Prop := MQ (xB X) (va_Qv (fun _ : Unit => True) (fun _ t => va_P (xD X) vwCl ws' t.heap) (xA X)) (xG X) (xS X) (xK X) (xN X) (xA X)
def KP (mi : Mi) (av : List Value) (D : va_G) (cI cZ : ClassId) (ws ws' : va_W) : Prop :=
  ∀ (l : Launch) (sz : Nat), Met l (my mi) (mws mi) (mrm mi) (va_Pc av (BW D cI cZ sz ws)) (va_Qv (fun _ : Unit => True) (fun _ t => va_P D vwCl ws' t.heap) (va_A ws sz)) 0 0 (va_A ws sz)
theorem KP_of {mi : Mi} {av : List Value} {D : va_G} {cI cZ : ClassId} {ws ws' : va_W} {L : List (Nat × Value)} (h1 : mi.1 = true) (hy : plainName (my mi).cls = true) (hL : lv_args 0 av = L) (hn : (lg_sl av).length ≤ mnL mi) (h : ∀ X : Cx, xD X = D → xI X = cI → xZ X = cZ → xK X = 0 → xN X = 0 → J X mi 0 L [] ws 0 0 (MP X ws')) : KP mi av D cI cZ ws ws' := by
  intro l sz
  refine Met.ofW (cc := mcc mi) (maxL := mnL mi) (ret := mret mi) hy rfl ?_
  intro p e s m args below meth c s₁ B hml hv
  obtain ⟨rfl, hsz, hP, hK, hD0, hN⟩ := hv
  subst hsz
  have hts := atoms_spec (ws := mws mi) B.pre
  rw [lg_entry_eq]
  have hl := lv_entry av (n := mnL mi) hn
  rw [hL] at hl
  exact h (p, l, e, mrm mi, s, m, av.toArray, below, meth, c, D, cI, cZ, va_A ws s.heap.size, 0, 0, fun _ _ => True) rfl rfl rfl rfl rfl
    ⟨⟨B.exec, B.bytes, hml, B.returns, B.notSynchronized, findClass_of_methodNamed B.named⟩, fun w hw => hts w (List.mem_cons_of_mem _ hw), hN, hK, fun q hq => Or.inr hq, ⟨rfl, rfl, rfl, rfl⟩, fun _ => (name_of_methodNamed B.named B.method).1⟩ _ [] _ hl hP hD0.self va_S.rf
section JP
variable {X : Cx} {mi : Mi} {pc : Nat} {L L' : List (Nat × Value)} {st : List Value} {ws ws' : va_W} {k n : Nat} {Q : State → Prop}
theorem J_retP (hret : mret mi = none) (hd : decode (mcc mi) pc = .ok (.return_, 1)) (hk : k = xK X) (hn : n = xN X) (hw : ws = ws') : J X mi pc L [] ws k n (MP X ws') := by
  intro ok H locs ls h1 h2 h3 h4
  subst hk hn hw
  exact W.vret ok.hx ok.hb (ok.hr.trans hret) (fun t ht hW => ⟨⟨(), rfl, trivial, (by show va_P (xD X) vwCl ws t.heap; rw [ht]; exact h2)⟩, h4.F ht⟩) h4.2.2 hd ok.hlk
theorem J_alen {q0 a N : Nat} (ha : ws[q0]? = some (a, .inl (xI X, N, .inl (fun _ => 0)))) (hd : decode (mcc mi) pc = .ok (.arraylength, 1)) (K : J X mi (pc + 1) L (.int (nI N) :: st) ws k n Q) : J X mi pc L (.ref a :: st) ws k n Q :=
  fun ok H locs ls h1 h2 h3 h4 => va_alen ok.hx ok.hb ok.hK h2 q0 0 ha (ty := .int) rfl rfl hd (K ok H locs ls h1 h2 h3 h4)
theorem set_same {ws : va_W} {q0 : Nat} {x : Nat × va_E} (h : ws[q0]? = some x) : ws.set q0 x = ws := by
  apply List.ext_getElem?
  intro i
  by_cases c : i = q0
  · subst c
    rw [List.getElem?_set_self (List.getElem?_eq_some_iff.mp h).1, h]
  · rw [List.getElem?_set_ne (Ne.symm c)]
theorem upd_0 (j : Nat) : upd (fun _ => (0 : Int32)) j 0 = fun _ => 0 := by
  funext i
  by_cases c : i = j
  · subst c; exact upd_s
  · exact upd_n c
theorem J_iast0 {q0 a N j : Nat} (ha : ws[q0]? = some (a, .inl (xI X, N, .inl (fun _ => 0)))) (hj : j < N) (hN : N ≤ 1000) (hd : decode (mcc mi) pc = .ok (.iastore, 1)) (K : J X mi (pc + 1) L st ws k n Q) : J X mi pc L (.int 0 :: .int (nI j) :: .ref a :: st) ws k n Q := by
  intro ok H locs ls h1 h2 h3 h4
  refine va_iast ok.hx ok.hb ok.hK h2 h3 h4 q0 0 ha rfl ((inb_nI (by omega)).mpr hj) hd (fun H1 locs1 a1 a2 a3 => ?_)
  rw [upd_0, set_same ha] at a1 a2
  exact K ok H1 locs1 ls h1 a1 a2 a3
theorem J_callPS {mj : Mi} {av : List Value} {m index : Nat} {host : String} (hM : KP mj av (xD X) (xI X) (xZ X) ws ws') (hc : CalS mj m) (hr : RoomOk mi mj) (hret : mret mj = none) (hl : Cond.methodLinkNest (my mi).cls index (my mj) host ∈ NW) (hn : av.length = m) (hk : k ≤ xK X) (hn2 : n ≤ xN X) (hcat : (st.map fun v => v.category).sum ≤ 8) (had : ∀ A, va_D A ws → va_D A ws') (hd : decode (mcc mi) pc = .ok (.invokestatic index, 3))
    (K : J X mi (pc + 3) L st ws' k n Q) : J X mi pc L (av.reverse ++ st) ws k n Q := by
  intro ok H locs ls h1 h2 h3 h4
  obtain ⟨⟨c1, c2, c3, c4⟩, c5⟩ := id hc
  have hF : ∀ q, va_A ws H.size q → xA X q := fun q hq => by
    rcases hq with ⟨i, e, h⟩ | h
    · exact h3.2 i _ h
    · exact ok.hA q (Nat.le_trans h4.1 h)
  have hrun := va_runSN (H := H) (locs := locs) (cells := k) (slots := n) (e := xE X) (meth := xMe X) (below := xB X) (As := av) (rest := st) (n := m) (g := F0 (xM X) pc ls (av.reverse ++ st)) ⟨ok.hx, ok.hb, ok.hml, ok.hown, ok.hts⟩ (hM (xL X) H.size) ⟨⟨⟨rfl, rfl, by rw [ok.hR.1]; exact hr.1, by rw [ok.hR.2.1]; exact hr.2, pay_in ok.hts (call_ws (n := m) hc.1), List.mem_cons_self⟩, ok.hts _ c1, ok.hts _ c2, c3, fun sig h => (by rw [h] at c4; exact (Option.some.inj c4).symm), va_Nw.use rfl (ok.hnw _ hl)⟩, ok.hts _ c5, trivial⟩ ⟨BW_blind, fun U hU hW => ⟨rfl, by rw [hU], by rw [hU]; exact h2, va_K.moved hW.alike ok.hK, h3.weaken (fun _ _ _ _ => trivial), fun w hw => nest_warm hW w (List.mem_filter.mp hw).2 (ok.hnw w hw)⟩⟩ rfl hn h1.1 rfl (lv_room hcat) hd ⟨by rw [ok.hR.2.2.1]; exact hk, by rw [ok.hR.2.2.2]; exact hn2⟩
  refine va_callv hrun h4 (fun q _ h => hF q h) hF (fun u t H1 locs1 ht hvm hw hB hz1 hk1 hS => ?_)
  rw [ht] at hB
  exact K ok H1 locs1 ls h1 hB (had _ h3) hS
theorem J_callPV {mj : Mi} {As : List Value} {T : u_T} {N ci q0 b : Nat} {fs : List Value} {m index : Nat} {host : String} (hM : KP mj (.ref b :: As) (xD X) (xI X) (xZ X) ws ws') (hc : CalV mj m) (hr : RoomOk mi mj) (hret : mret mj = none) (hl : Cond.methodLinkNest (my mi).cls index (my mj) host ∈ NW) (hcl : ClOk ci (my mj).cls T N) (he : ws[q0]? = some (b, .inr (ci, fs))) (hn : As.length = m) (hk : k ≤ xK X) (hn2 : n ≤ xN X) (hcat : (st.map fun v => v.category).sum ≤ 8) (had : ∀ A, va_D A ws → va_D A ws') (hd : decode (mcc mi) pc = .ok (.invokevirtual index, 3))
    (K : J X mi (pc + 3) L st ws' k n Q) : J X mi pc L (As.reverse ++ .ref b :: st) ws k n Q := by
  intro ok H locs ls h1 h2 h3 h4
  obtain ⟨⟨c1, c2, c3, c4⟩, c5, c6⟩ := id hc
  have hF : ∀ q, va_A ws H.size q → xA X q := fun q hq => by
    rcases hq with ⟨i, e, h⟩ | h
    · exact h3.2 i _ h
    · exact ok.hA q (Nat.le_trans h4.1 h)
  have hrun := va_runVN (H := H) (locs := locs) (cells := k) (slots := n) (e := xE X) (meth := xMe X) (below := xB X) (As := As) (rest := st) (b := b) (C := (my mj).cls) (n := m) (g := F0 (xM X) pc ls (As.reverse ++ .ref b :: st)) ⟨ok.hx, ok.hb, ok.hml, ok.hown, ok.hts⟩ (hM (xL X) H.size) ⟨⟨⟨rfl, rfl, by rw [ok.hR.1]; exact hr.1, by rw [ok.hR.2.1]; exact hr.2, pay_in ok.hts (call_ws (n := m) hc.1), List.mem_cons_self⟩, ok.hts _ c1, ok.hts _ c2, c3, fun sig h => (by rw [h] at c4; exact (Option.some.inj c4).symm), va_Nw.use rfl (ok.hnw _ hl)⟩, ok.hts _ c5, ok.hts _ c6⟩ ⟨BW_blind, va_recv (q := ((my mj).cls, T, N)) ok.hK h2 hcl.1 he, fun U hU hW => ⟨rfl, by rw [hU], by rw [hU]; exact h2, va_K.moved hW.alike ok.hK, h3.weaken (fun _ _ _ _ => trivial), fun w hw => nest_warm hW w (List.mem_filter.mp hw).2 (ok.hnw w hw)⟩⟩ rfl hn h1.1 rfl (lv_room hcat) hd ⟨by rw [ok.hR.2.2.1]; exact hk, by rw [ok.hR.2.2.2]; exact hn2⟩
  refine va_callv hrun h4 (fun q _ h => hF q h) hF (fun u t H1 locs1 ht hvm hw hB hz1 hk1 hS => ?_)
  rw [ht] at hB
  exact K ok H1 locs1 ls h1 hB (had _ h3) hS
end JP
theorem kp_wipe {D : va_G} {cI cZ : ClassId} {ws : va_W} {q0 a N : Nat} (ha : ws[q0]? = some (a, .inl (cI, N, .inl (fun _ => 0)))) (hN : N ≤ 1000) : KP mi_SP_wipe [.ref a] D cI cZ ws ws := by
  refine KP_of (L := [(0, .ref a)]) rfl (by decide +kernel) rfl (Nat.le_of_ble_eq_true rfl) (fun X e1 e2 e3 e4 e5 => ?_)
  subst e1 e2 e3
  refine J_aload_n dX9_wipe_0 0 rfl ?_
  refine J_ifnonnull 5 dX9_wipe_1 (by decide) ?_
  refine J_iconst (v := 0) dX9_wipe_5 rfl ?_
  refine J_istore_n 1 rfl dX9_wipe_6 (by decide) (L' := [(1, .int 0), (0, .ref a)]) rfl ?_
  have loop : ∀ d x, d + x = N → J X mi_SP_wipe 7 [(1, .int (nI x)), (0, .ref a)] [] ws 0 0 (MP X ws) := by
    intro d
    induction d with
    | zero =>
      intro x hx
      refine J_iload_n dX9_wipe_7 0 rfl ?_
      refine J_aload_n dX9_wipe_8 1 rfl ?_
      refine J_alen ha dX9_wipe_9 ?_
      refine J_icmp_ge 23 dX9_wipe_10 (by decide) (fun _ => ?_) (fun h => ?_)
      · exact J_retP rfl dX9_wipe_23 e4.symm e5.symm rfl
      · exact absurd ((nI_leI (by omega) (by omega)).mpr (by omega)) h
    | succ d ih =>
      intro x hx
      refine J_iload_n dX9_wipe_7 0 rfl ?_
      refine J_aload_n dX9_wipe_8 1 rfl ?_
      refine J_alen ha dX9_wipe_9 ?_
      refine J_icmp_ge 23 dX9_wipe_10 (by decide) (fun h => ?_) (fun _ => ?_)
      · have := (nI_leI (by omega) (by omega)).mp h; omega
      · refine J_aload_n dX9_wipe_13 1 rfl ?_
        refine J_iload_n dX9_wipe_14 0 rfl ?_
        refine J_iconst (v := 0) dX9_wipe_15 rfl ?_
        refine J_iast0 (j := x) ha (by omega) hN dX9_wipe_16 ?_
        refine J_iinc (nI (x + 1)) dX9_wipe_17 0 rfl (nI_1 x) (by decide) (L' := [(1, .int (nI (x + 1))), (0, .ref a)]) rfl ?_
        refine J_goto 7 dX9_wipe_20 (by decide) ?_
        exact ih (x + 1) (by omega)
  exact loop N 0 (by omega)
theorem kp_settle {D : va_G} {cI cZ : ClassId} {ws : va_W} {q0 q1 a b t : Nat} {v0 v : Int32} (ht : ws[q0]? = some (t, .inr (7, [.ref a, .ref b, .int v0]))) (ha : ws[q1]? = some (a, .inl (cI, 7, .inl (fun _ => 0)))) (hne : q0 ≠ q1) : KP mi_To_settle [.ref t, .int v] D cI cZ ws (ws.set q0 (t, .inr (7, [.ref a, .ref b, .int v]))) := by
  refine KP_of (L := [(0, .ref t), (1, .int v)]) rfl (by decide +kernel) rfl (Nat.le_of_ble_eq_true rfl) (fun X e1 e2 e3 e4 e5 => ?_)
  subst e1 e2 e3
  refine J_aload_n dX7_settle_0 0 rfl ?_
  refine J_iload_n dX7_settle_1 1 rfl ?_
  refine J_pi (j := 2) hclX7 ht (by decide) wd_144 rfl (by decide +kernel) (Nat.le_of_ble_eq_true rfl) dX7_settle_2 ?_
  refine J_aload_n dX7_settle_5 0 rfl ?_
  have ht' : (ws.set q0 (t, .inr (7, [.ref a, .ref b, .int v])))[q0]? = some (t, .inr (7, [.ref a, .ref b, .int v])) := List.getElem?_set_self (List.getElem?_eq_some_iff.mp ht).1
  have ha' : (ws.set q0 (t, .inr (7, [.ref a, .ref b, .int v])))[q1]? = some (a, .inl (xI X, 7, .inl (fun _ => 0))) := (List.getElem?_set_ne hne).trans ha
  refine J_get (j := 0) hclX7 ht' (by decide) wd_139 rfl dX7_settle_6 ?_
  refine J_callPS (av := [.ref a]) (st := []) (kp_wipe ha' (by omega)) cal_SP_wipe ⟨Nat.le_of_ble_eq_true rfl, Nat.le_of_ble_eq_true rfl⟩ rfl wn_304 rfl (Nat.zero_le _) (Nat.zero_le _) (Nat.zero_le _) (fun A h => h) dX7_settle_9 ?_
  exact J_retP rfl dX7_settle_12 e4.symm e5.symm rfl
