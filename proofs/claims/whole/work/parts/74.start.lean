/-! by hand: the law's loop, its start -/
theorem w_n9 : Cond.classLink RL 7 RX9 ∈ TB := TB_in (List.mem_of_getElem? (i := 125) (by decide +kernel)) rfl
theorem w_i9 : Cond.instantiable RX9 13 ∈ TB := TB_in (List.mem_of_getElem? (i := 126) (by decide +kernel)) rfl
theorem w_z9 : Cond.initialized RX9 ∈ TB := TB_in (List.mem_of_getElem? (i := 113) (by decide +kernel)) rfl
theorem w_c9 : Cond.methodLink RL 9 yX9_init ∈ TB := TB_in (List.mem_of_getElem? (i := 127) (by decide +kernel)) rfl
theorem w_n10 : Cond.classLink RL 10 RX10 ∈ TB := TB_in (List.mem_of_getElem? (i := 890) (by decide +kernel)) rfl
theorem w_i10 : Cond.instantiable RX10 34 ∈ TB := TB_in (List.mem_of_getElem? (i := 891) (by decide +kernel)) rfl
theorem w_z10 : Cond.initialized RX10 ∈ TB := TB_in (List.mem_of_getElem? (i := 123) (by decide +kernel)) rfl
theorem w_c10 : Cond.methodLink RL 12 yX10_init ∈ TB := TB_in (List.mem_of_getElem? (i := 892) (by decide +kernel)) rfl
abbrev fsX9 : List Value := [.null, .null, .null, .null, .null, .null, .null, .null, .null, .null, .null, .null, .int 0]
theorem fsX9_ok : ∀ j, j < 13 → defaultValue (tyX9 j) = vp_V fsX9 j := fun j hj => match j, hj with
  | 0, _ => rfl
  | 1, _ => rfl
  | 2, _ => rfl
  | 3, _ => rfl
  | 4, _ => rfl
  | 5, _ => rfl
  | 6, _ => rfl
  | 7, _ => rfl
  | 8, _ => rfl
  | 9, _ => rfl
  | 10, _ => rfl
  | 11, _ => rfl
  | 12, _ => rfl
  | j + 13, h => absurd h (by omega)
abbrev fsX10 : List Value := [.null, .null, .null, .null, .null, .null, .null, .null, .int 0, .int 0, .int 0, .null, .int 0, .int 0, .int 0, .null, .null, .null, .null, .null, .null, .null, .null, .null, .null, .null, .null, .null, .null, .null, .null, .null, .null, .int 0]
theorem fsX10_ok : ∀ j, j < 34 → defaultValue (tyX10 j) = vp_V fsX10 j := fun j hj => match j, hj with
  | 0, _ => rfl
  | 1, _ => rfl
  | 2, _ => rfl
  | 3, _ => rfl
  | 4, _ => rfl
  | 5, _ => rfl
  | 6, _ => rfl
  | 7, _ => rfl
  | 8, _ => rfl
  | 9, _ => rfl
  | 10, _ => rfl
  | 11, _ => rfl
  | 12, _ => rfl
  | 13, _ => rfl
  | 14, _ => rfl
  | 15, _ => rfl
  | 16, _ => rfl
  | 17, _ => rfl
  | 18, _ => rfl
  | 19, _ => rfl
  | 20, _ => rfl
  | 21, _ => rfl
  | 22, _ => rfl
  | 23, _ => rfl
  | 24, _ => rfl
  | 25, _ => rfl
  | 26, _ => rfl
  | 27, _ => rfl
  | 28, _ => rfl
  | 29, _ => rfl
  | 30, _ => rfl
  | 31, _ => rfl
  | 32, _ => rfl
  | 33, _ => rfl
  | j + 34, h => absurd h (by omega)
theorem law_K {s : State} {a : Array Value} (hts : ∀ w ∈ TB, w.before a s = true) : ∃ (D : va_G) (cI cZ : ClassId), va_K D vwCl (wty cI cZ) s := by
  have hk : ∀ k : Nat, ∃ x : ClassId × (Nat → Nat), ∀ q : vw_C, vwCl[k]? = some q → u_Kn s q.1 q.2.1 q.2.2 x.1 x.2 := by
    intro k
    match k with
    | 0 =>
      obtain ⟨c, i, h⟩ := u_known hts inTBX0 (hts _ wd_253)
      exact ⟨(c, i), fun q hq => by cases hq; exact h⟩
    | 1 =>
      obtain ⟨c, i, h⟩ := u_known hts inTBX1 (hts _ wd_266)
      exact ⟨(c, i), fun q hq => by cases hq; exact h⟩
    | 2 =>
      obtain ⟨c, i, h⟩ := u_known hts inTBX2 (hts _ wd_201)
      exact ⟨(c, i), fun q hq => by cases hq; exact h⟩
    | 3 =>
      obtain ⟨c, i, h⟩ := u_known hts inTBX3 (hts _ wd_279)
      exact ⟨(c, i), fun q hq => by cases hq; exact h⟩
    | 4 =>
      obtain ⟨c, i, h⟩ := u_known hts inTBX4 (hts _ wd_221)
      exact ⟨(c, i), fun q hq => by cases hq; exact h⟩
    | 5 =>
      obtain ⟨c, i, h⟩ := u_known hts inTBX5 (hts _ wd_174)
      exact ⟨(c, i), fun q hq => by cases hq; exact h⟩
    | 6 =>
      obtain ⟨c, i, h⟩ := u_known hts inTBX6 (hts _ wd_159)
      exact ⟨(c, i), fun q hq => by cases hq; exact h⟩
    | 7 =>
      obtain ⟨c, i, h⟩ := u_known hts inTBX7 (hts _ wd_134)
      exact ⟨(c, i), fun q hq => by cases hq; exact h⟩
    | 8 =>
      obtain ⟨c, i, h⟩ := u_known hts inTBX8 (hts _ wd_231)
      exact ⟨(c, i), fun q hq => by cases hq; exact h⟩
    | 9 =>
      obtain ⟨c, i, h⟩ := u_known hts inTBX9 (hts _ w_i9)
      exact ⟨(c, i), fun q hq => by cases hq; exact h⟩
    | 10 =>
      obtain ⟨c, i, h⟩ := u_known hts inTBX10 (hts _ w_i10)
      exact ⟨(c, i), fun q hq => by cases hq; exact h⟩
    | k + 11 => exact ⟨(0, fun _ => 0), fun q hq => by simp at hq⟩
  obtain ⟨cI, kI, mI, a1, a2, a3⟩ := Cond.arrayClass_spec (hts _ wd_157)
  obtain ⟨cZ, kZ, mZ, b1, b2, b3⟩ := Cond.arrayClass_spec (hts _ wd_999)
  refine ⟨(fun k => (Classical.choose (hk k)).1, fun k => (Classical.choose (hk k)).2), cI, cZ, fun k q hq => Classical.choose_spec (hk k) q hq, fun k q hq => ?_⟩
  match k, hq with
  | 0, hq => cases hq; exact ⟨fun n z => ⟨fun k h => (by cases h), kI, a2, mI, a3⟩, a1⟩
  | 1, hq => cases hq; exact ⟨fun n z => ⟨fun k h => (by cases h), kZ, b2, mZ, b3⟩, b1⟩
  | k + 2, hq => simp at hq
theorem gt5 {i Ls : Nat} (hL : Ls ≤ 2560) (hi : i ≤ Ls) (h : ¬ (nI Ls - nI 5 < nI i)) : i + 5 ≤ Ls := by
  rw [i_lt, sub_toInt (by omega) (by omega), nI_toInt (by omega)] at h
  omega
theorem law_loop {X : Cx} {ad : Nat → Nat} {b Ls : Nat} {xs : Nat → Int32} (hx : LwX X b Ls xs) (hend : ∀ (i : Nat) (M : Mem), G X ad mi_law φ0 1069 (LL ad b i) [] M (some ())) : ∀ (d i : Nat) (M : Mem) (σ : Sg), Ls + 1 ≤ i + d → i ≤ Ls → WF σ → RC M σ → RM M σ → G X ad mi_law φ0 18 (LL ad b i) [] M (some ()) := by
  have hL := hx.2.2.2
  intro d
  induction d with
  | zero => intro i M σ h1 h2; omega
  | succ d ih =>
    intro i M σ h1 h2 hw hc hm
    refine G_iload_n dL_law_18 0 rfl ?_
    refine G_aload_n dL_law_19 3 rfl ?_
    refine G_slen hx dL_law_20 ?_
    refine G_iconst (v := nI 5) dL_law_21 rfl ?_
    refine G_isub dL_law_22 ?_
    refine G_icmp_gtT 1069 dL_law_23 (by decide) (fun _ => hend i M) (fun h => ?_)
    have hi : i + 5 ≤ Ls := gt5 hL h2 h
    refine G_aload_n dL_law_26 3 rfl ?_
    refine G_iload_n dL_law_27 0 rfl ?_
    refine G_sld hx rfl (by omega) dL_law_28 ?_
    refine G_bipush (v := 31) dL_law_29 (by decide) ?_
    refine G_iand dL_law_31 ?_
    refine law_which hx hi hw hc hm (fun M' σ' w' c' m' => ?_) _
    refine G_iinc (nI (i + 5)) dL_law_1063 0 rfl (nI_add i 5) (by decide) (L' := LL ad b (i + 5)) rfl ?_
    refine G_goto 18 dL_law_1066 (by decide) ?_
    exact ih (i + 5) M' σ' (by omega) (by omega) w' c' m'
def M00 : Mem := fun k => match k with
  | 1 => fun j => if j = 2 then 4 else 0
  | 33 => fun j => if j = 8 then 4 else 0
  | _ => fun _ => 0
def adJ (u v : Nat → Nat) : Nat → Nat := fun k => if k < 33 then u k else v (k - 33)
def σ0 : Sg := (4, 0, 0, 0, 0, fun _ => 0, fun _ _ => 0, fun _ => 0, fun _ _ => 0, fun _ => 0)
theorem w0 : WF σ0 := ⟨by decide, by decide, by decide, by decide, by decide, by decide, fun _ _ => Nat.zero_le _, fun i h => absurd h (Nat.not_lt_zero i), fun i h => absurd h (Nat.not_lt_zero i), fun i h => absurd h (Nat.not_lt_zero i)⟩
theorem c0 : RC M00 σ0 := ⟨rfl, rfl, rfl, rfl, rfl, fun _ _ => rfl, fun i h => absurd h (Nat.not_lt_zero i), fun i h => absurd h (Nat.not_lt_zero i), fun i h => absurd h (Nat.not_lt_zero i), fun _ _ => rfl⟩
theorem m0 : RM M00 σ0 := ⟨rfl, rfl, rfl, rfl, rfl, fun _ _ => rfl, fun i h => absurd h (Nat.not_lt_zero i), fun i h => absurd h (Nat.not_lt_zero i), fun i h => absurd h (Nat.not_lt_zero i), fun _ _ => rfl⟩
set_option maxHeartbeats 4000000 in
set_option maxRecDepth 100000 in
theorem wd_made (u v : Nat → Nat) (cI cZ : ClassId) : wfX9 u cI cZ ++ wfX10 v cI cZ = wd (adJ u v) cI cZ M00 := rfl
theorem law_in {X : Cx} {b Ls : Nat} {xs : Nat → Int32} {u v : Nat → Nat} (hx : LwX X b Ls xs) (hR : (xR X).frames = mfr mi_law ∧ (xR X).locals = mlo mi_law ∧ xK X ≤ (xR X).cells ∧ xN X ≤ (xR X).slots) (hK : xK X = 61) (hN : xN X = 2567) (hend : ∀ (ad : Nat → Nat) (i : Nat) (M : Mem), G X ad mi_law φ0 1069 (LL ad b i) [] M (some ())) : J X mi_law 18 [(3, .int (nI 0)), (2, .ref (v 0)), (1, .ref (u 0)), (0, .ref b)] [] (wfX9 u (xI X) (xZ X) ++ wfX10 v (xI X) (xZ X)) 61 2567 (xQ X (φ0 ())) := by
  intro ok H locs ls h1 h2 h3 h4
  rw [wd_made] at h2 h3
  have hL := hx.2.2.2
  have q := law_loop hx (hend (adJ u v)) (Ls + 1) 0 M00 σ0 (by omega) (Nat.zero_le _) w0 c0 m0 ⟨ok.1, ok.2.1, ok.2.2.1, ok.2.2.2.1, fun i j hi hj e => h3.1 i j _ _ (wd_get hi) (wd_get hj) e, fun q hq => by obtain ⟨k, hk, rfl⟩ := hq; exact h3.2 k _ (wd_get hk), hR, fun h => absurd h (by decide)⟩ () rfl H locs ls h1 h2 h4
  rw [hK, hN] at q
  exact q
set_option maxHeartbeats 4000000 in
set_option maxRecDepth 100000 in
theorem law_made {X : Cx} {b Ls : Nat} {xs : Nat → Int32} (hx : LwX X b Ls xs) (hR : (xR X).frames = mfr mi_law ∧ (xR X).locals = mlo mi_law ∧ xK X ≤ (xR X).cells ∧ xN X ≤ (xR X).slots) (hK : xK X = 61) (hN : xN X = 2567) (hend : ∀ (ad : Nat → Nat) (i : Nat) (M : Mem), G X ad mi_law φ0 1069 (LL ad b i) [] M (some ())) : J X mi_law 0 [(0, .ref b)] [] [] 0 0 (xQ X (φ0 ())) := by
  refine J_new (fs := fsX9) hclX9 tyX9 tyX9_ok fsX9_ok w_n9 w_i9 w_z9 (by rw [hK]; exact Nat.le_of_ble_eq_true rfl) (by rw [hN]; exact Nat.le_of_ble_eq_true rfl) dL_law_0 (fun q => ?_)
  refine J_dup dL_law_3 rfl ?_
  refine J_ctor knX9 ciX9 ⟨Nat.le_of_ble_eq_true rfl, Nat.le_of_ble_eq_true rfl⟩ w_c9 (by rw [hK]; exact Nat.le_of_ble_eq_true rfl) (by rw [hN]; exact Nat.le_of_ble_eq_true rfl) (Nat.le_of_ble_eq_true rfl) dL_law_4 (fun u hu => ?_)
  subst hu
  refine J_eq (ws' := wfX9 u (xI X) (xZ X)) (k' := 33) (n' := 1422) (List.nil_append _) rfl rfl ?_
  refine J_astore_n 1 rfl dL_law_7 (by decide) (L' := [(1, .ref (u 0)), (0, .ref b)]) rfl ?_
  refine J_new (fs := fsX10) hclX10 tyX10 tyX10_ok fsX10_ok w_n10 w_i10 w_z10 (by rw [hK]; exact Nat.le_of_ble_eq_true rfl) (by rw [hN]; exact Nat.le_of_ble_eq_true rfl) dL_law_8 (fun q => ?_)
  refine J_dup dL_law_11 rfl ?_
  refine J_ctor knX10 ciX10 ⟨Nat.le_of_ble_eq_true rfl, Nat.le_of_ble_eq_true rfl⟩ w_c10 (by rw [hK]; exact Nat.le_of_ble_eq_true rfl) (by rw [hN]; exact Nat.le_of_ble_eq_true rfl) (Nat.le_of_ble_eq_true rfl) dL_law_12 (fun v hv => ?_)
  subst hv
  refine J_eq (ws' := wfX9 u (xI X) (xZ X) ++ wfX10 v (xI X) (xZ X)) (k' := 61) (n' := 2567) rfl rfl rfl ?_
  refine J_astore_n 2 rfl dL_law_15 (by decide) (L' := [(2, .ref (v 0)), (1, .ref (u 0)), (0, .ref b)]) rfl ?_
  refine J_iconst (v := nI 0) dL_law_16 rfl ?_
  refine J_istore_n 3 rfl dL_law_17 (by decide) (L' := [(3, .int (nI 0)), (2, .ref (v 0)), (1, .ref (u 0)), (0, .ref b)]) rfl ?_
  exact law_in hx hR hK hN hend
set_option maxHeartbeats 4000000 in
set_option maxRecDepth 100000 in
/-- YOUR PART: from the entry, for every script of at most 2560 ints, the law comes to its end with true -/
theorem whole_start {p : Program} {e : Env} {s : State} {m : MethodId} {below : List Frame} {meth : Method} {c : Code} (l : Launch) (hflags : l.flags = flags0) {b L : Nat} {xs : Nat → Int32} (hL : L ≤ 2560) (C0 : lw_At p s m meth c b L xs) : W p l e room_1 s m #[Value.ref b] below meth c s.heap [] 0 0 (lw_Z below #[Value.ref b] s) (entryFrame m ([Value.ref b] : List Value).toArray 4) := by
  obtain ⟨hx, hb, hr, hml, hown, hts, hX, hbl, hlocks, hgv⟩ := id C0
  have hTB : ∀ w ∈ TB, w.before #[Value.ref b] s = true := fun w hw => hts w (List.mem_filter.mp hw).1
  have hNW : ∀ w ∈ NW, va_Nw w s := fun w hw => va_Nw.of (nest_on w (List.mem_filter.mp hw).2) (hts w (List.mem_filter.mp hw).1)
  obtain ⟨D, cI, cZ, hK⟩ := law_K hTB
  let X : Cx := (p, l, e, room_1, s, m, #[Value.ref b], below, meth, c, D, cI, cZ, fun q => s.heap.size ≤ q, 61, 2567, fun _ => lw_Z below #[Value.ref b] s)
  have hend : ∀ (ad : Nat → Nat) (i : Nat) (M : Mem), G X ad mi_law φ0 1069 (LL ad b i) [] M (some ()) := fun ad i M =>
    G_iconst (v := 1) dL_law_1069 rfl (fun ok r hr' H locs ls h1 h2 h3 => va_forget (fun q hq => h3.2.2 q hq) (lw_ret hx hb hr hlocks dL_law_1070))
  have q : J X mi_law 0 [(0, .ref b)] [] [] 0 0 (xQ X (φ0 ())) := law_made (X := X) ⟨hX, hbl, Nat.not_le.mpr hbl, hL⟩ ⟨rfl, rfl, Nat.le_of_ble_eq_true rfl, Nat.le_of_ble_eq_true rfl⟩ rfl rfl hend
  rw [lg_entry_eq]
  have hl := lv_entry ([.ref b]) (n := 4) (Nat.le_of_ble_eq_true rfl)
  exact q ⟨⟨hx, hb, hml, hr, hlocks, hown⟩, hTB, hNW, hK, fun q h => h, ⟨rfl, rfl, rfl, rfl⟩, fun h => absurd h (by decide)⟩ _ [] _ hl (fun k q h => by simp at h) ⟨fun i j p q h => by simp at h, fun k q h => by simp at h⟩ va_S.rf
