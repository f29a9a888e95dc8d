/-! by hand: the coarsest parting of a year; stays -/
theorem SP_partOfYear_wp {σ : Sg} {M : Mem} {y kd k3 : Nat} (hk3 : k3 = 26 ∨ k3 = 28) (hy : y ≤ 100) (hkd : kd < 5) (hw : WF σ) (h : RC M σ) : wp (SP_partOfYear (nI y) (nI kd) k3 M) (fun M' => Fr [3, 15, k3, k3 + 1, 30, 31] M M' ∧ PT M' k3 σ.1 (cst σ y kd (fun _ => 0))) := by
  have hP : isP k3 := by rcases hk3 with rfl | rfl <;> exact ⟨by decide, rfl, rfl⟩
  have hne : k3 ≠ 30 := by rcases hk3 with rfl | rfl <;> decide
  have hno : 3 ∉ [k3, k3 + 1] ∧ 1 ∉ [k3, k3 + 1] ∧ 2 ∉ [k3, k3 + 1] := by rcases hk3 with rfl | rfl <;> decide
  unfold SP_partOfYear
  refine wp_bind (SP_look hy hw h) (fun M1 h1 => ?_)
  obtain ⟨f1, t1⟩ := h1
  have r1 := h.fr (f1.mo SCR3)
  rw [show M1 1 2 = nI σ.1 from r1.1]
  refine wp_bind (Pa_allInOne_wp hP hw.1 hw.2.1) (fun M2 h2 => ?_)
  obtain ⟨f2, p2⟩ := h2
  have tw : TW M2 σ.1 σ.2.2.2.2.2.1 (tab σ.2.2.2.2.2.2.1 y σ.2.2.1) := (TW.of r1 t1).fr f2 hno.2.1 hno.2.2 hno.1
  refine wp_bind (Sa_refine_wp hP isP_30 hne (TWF.of hw) tw p2 (RGS_0 _) hkd) (fun M3 h3 => ?_)
  obtain ⟨f3, p3⟩ := h3
  exact wp_some ⟨((f1.mo (by simp)).tr (f2.mo (by simp))).tr (f3.mo (by simp)), p3⟩
theorem MD_coarsestOn_wp {σ : Sg} {M : Mem} {y kd : Nat} (hy : y ≤ 100) (hkd : kd < 5) (hw : WF σ) (h : RM M σ) : wp (MD_coarsestOn (nI y) (nI kd) M) (fun r => Fr [49, 50, 52, 53] M r.2 ∧ r.1 = nI (num (cst σ y kd (fun _ => 0)) σ.1)) := by
  unfold MD_coarsestOn
  refine wp_bind (MD_look hy hw h) (fun M1 h1 => ?_)
  obtain ⟨f1, t1⟩ := h1
  have r1 := h.fr (f1.mo SMR49)
  refine wp_bind (MD_firstParting_wp hw.2.1 r1.1) (fun M2 h2 => ?_)
  obtain ⟨f2, p2⟩ := h2
  have tm := (TM.of r1 t1).fr f2 (by decide) (by decide) (by decide)
  refine wp_bnd2 (MD_splits_wp (TWF.of hw) tm p2 (RGS_0 _) hkd) (fun r M3 h3 => ?_)
  obtain ⟨f3, e3⟩ := h3
  exact wp_some ⟨((f1.mo (by simp)).tr (f2.mo (by simp))).tr (f3.mo (by simp)), e3⟩
theorem cst0_RGS {σ : Sg} {y kd : Nat} : RGS σ.1 (cst σ y kd (fun _ => 0)) := cst_RGS (RGS_0 _)
/-- the next year in which a tie begins or ends -/
def nxc (tf : Nat → Nat → Nat) (a : Nat) : Nat → Nat
  | 0 => 101
  | i + 1 => let m := if a < tf i 4 then min (nxc tf a i) (tf i 4) else nxc tf a i
             if a < tf i 5 then min m (tf i 5) else m
theorem nxc_s (tf : Nat → Nat → Nat) (a i : Nat) : nxc tf a (i + 1) = if a < tf i 5 then min (if a < tf i 4 then min (nxc tf a i) (tf i 4) else nxc tf a i) (tf i 5) else if a < tf i 4 then min (nxc tf a i) (tf i 4) else nxc tf a i := rfl
theorem nxc_ok (tf : Nat → Nat → Nat) (a : Nat) (ha : a ≤ 100) : ∀ nt, nxc tf a nt ≤ 101 ∧ a < nxc tf a nt ∧ ∀ i, i < nt → (a < tf i 4 → nxc tf a nt ≤ tf i 4) ∧ (a < tf i 5 → nxc tf a nt ≤ tf i 5)
  | 0 => ⟨Nat.le_refl _, by show a < 101; omega, fun i hi => by omega⟩
  | nt + 1 => by
    obtain ⟨h1, h2, h3⟩ := nxc_ok tf a ha nt
    rw [nxc_s]
    have hle : (if a < tf nt 5 then min (if a < tf nt 4 then min (nxc tf a nt) (tf nt 4) else nxc tf a nt) (tf nt 5) else if a < tf nt 4 then min (nxc tf a nt) (tf nt 4) else nxc tf a nt) ≤ nxc tf a nt := by
      split <;> split <;> omega
    refine ⟨by omega, ?_, fun i hi => ?_⟩
    · split <;> split <;> omega
    · by_cases e : i = nt
      · subst e
        constructor
        · intro c
          split <;> first | omega | (split <;> omega)
        · intro c
          split <;> first | omega | (split <;> omega)
      · have := h3 i (by omega)
        exact ⟨fun c => Nat.le_trans hle (this.1 c), fun c => Nat.le_trans hle (this.2 c)⟩
theorem tab_same {tf : Nat → Nat → Nat} {a y : Nat} : ∀ {nt : Nat}, (∀ i, i < nt → ((tf i 4 ≤ a ↔ tf i 4 ≤ y) ∧ (a < tf i 5 ↔ y < tf i 5))) → tab tf a nt = tab tf y nt
  | 0, _ => rfl
  | nt + 1, h => by
    funext c
    rw [tab_s, tab_s, tab_same (fun i hi => h i (by omega))]
    obtain ⟨h1, h2⟩ := h nt (by omega)
    simp only [h1, h2]
theorem Td_nextChange_eq {M : Mem} {nt a : Nat} {tf : Nat → Nat → Nat} (hnt : nt ≤ 60) (ha : a ≤ 100) (h4 : M 4 1 = nI nt) (h5 : ∀ i, i < nt → ∀ j, j < 6 → M 5 (i * 6 + j) = nI (tf i j)) (ht : ∀ i, i < nt → tf i 4 ≤ 100 ∧ tf i 5 ≤ 100) : Td_nextChange (nI a) M = some (nI (nxc tf a nt)) := by
  unfold Td_nextChange
  refine LOOP_fun (fun i => (nI (nxc tf a i), nI i)) nt (by omega) (fun _ => some (nI (nxc tf a nt))) ?_ ?_ 0 (Nat.zero_le _)
  · intro i ag hi ih
    have hb := (nxc_ok tf a ha i).1
    obtain ⟨b1, b2⟩ := ht i hi
    show Td_nextChange_L5 (nI a) M _ ag _ (nI i) = _
    unfold Td_nextChange_L5
    have d4 : Td_field 4 (nI i) 4 M = some (nI (tf i 4)) := by
      rw [show (4 : Int32) = nI 4 from rfl, Td_field_nI isT_4 (by omega) (by omega), show 4 + 1 = 5 from rfl, h5 i hi 4 (by omega)]
    have d5 : Td_field 4 (nI i) 5 M = some (nI (tf i 5)) := by
      rw [show (5 : Int32) = nI 5 from rfl, Td_field_nI isT_4 (by omega) (by omega), show 4 + 1 = 5 from rfl, h5 i hi 5 (by omega)]
    rw [h4, if_neg (by rw [nI_leI (by omega) (by omega)]; omega), d4, d5, bind_s, jp_e, bind_s, nm_e', jmin_nI (by omega) (by omega)]
    simp only [bind_s, nm_e']
    rw [← ih, nxc_s, nI_1]
    by_cases c1 : a < tf i 4
    · rw [if_neg (by rw [nI_leI (by omega) (by omega)]; omega), if_pos c1]
      by_cases c2 : a < tf i 5
      · rw [if_neg (by rw [nI_leI (by omega) (by omega)]; omega), if_pos c2, jmin_nI (by omega) (by omega)]
      · rw [if_pos (by rw [nI_leI (by omega) (by omega)]; omega), if_neg c2]
    · rw [if_pos (by rw [nI_leI (by omega) (by omega)]; omega), if_neg c1]
      by_cases c2 : a < tf i 5
      · rw [if_neg (by rw [nI_leI (by omega) (by omega)]; omega), if_pos c2, jmin_nI (by omega) (by omega)]
      · rw [if_pos (by rw [nI_leI (by omega) (by omega)]; omega), if_neg c2]
  · intro ag
    show Td_nextChange_L5 (nI a) M _ ag _ (nI nt) = _
    unfold Td_nextChange_L5
    rw [h4, if_pos (by rw [nI_leI (by omega) (by omega)]; omega)]
def yrN (σ : Sg) (kd y : Nat) : Nat := num (cst σ y kd (fun _ => 0)) σ.1
def fstD (N : Nat → Nat) (y0 : Nat) : Nat := ff (fun y => decide (y0 < y) && !(N y == N y0)) 101
theorem fstD_hit {N : Nat → Nat} {y0 a : Nat} (h1 : y0 < a) (ha : a ≤ 100) (hn : N a ≠ N y0) (h : ∀ y, y0 < y → y < a → N y = N y0) : fstD N y0 = a := by
  refine ff_eq (by omega) ?_ (fun z hz => ?_)
  · rw [decide_eq_true h1, beq_eq_false_iff_ne.mpr hn]; rfl
  · by_cases c : y0 < z
    · rw [h z c hz, beq_self_eq_true, Bool.not_true, Bool.and_false]
    · rw [decide_eq_false c]; rfl
theorem fstD_none {N : Nat → Nat} {y0 : Nat} (h : ∀ y, y0 < y → y < 101 → N y = N y0) : fstD N y0 = 101 := by
  refine ff_none (fun z hz => ?_)
  by_cases c : y0 < z
  · rw [h z c hz, beq_self_eq_true, Bool.not_true, Bool.and_false]
  · rw [decide_eq_false c]; rfl
def R_stays (σ : Sg) (v kd : Int32) : Ans := if inrB kd 5 = true then if oB v 0 100 = 4 then no σ 4 else if oB v 0 100 = 6 then no σ 6 else (σ, nI (fstD (yrN σ kd.toInt.toNat) v.toInt.toNat - v.toInt.toNat)) else no σ 1
theorem SCRy : ∀ k3, k3 = 26 ∨ k3 = 28 → ∀ a ∈ [3, 15, k3, k3 + 1, 30, 31], a ∈ SCR := by
  intro k3 h
  rcases h with rfl | rfl <;> decide
theorem SMRy : ∀ a ∈ [49, 50, 52, 53], a ∈ SMR := by decide
theorem yrN_lt {σ : Sg} {kd y : Nat} (hw : WF σ) : yrN σ kd y < 2 ^ 31 := (num_lt7 cst0_RGS hw.2.1).2
theorem yrN_same {σ : Sg} {kd a y : Nat} (ha : a ≤ 100) (h1 : a ≤ y) (h2 : y < nxc σ.2.2.2.2.2.2.1 a σ.2.2.1) : yrN σ kd y = yrN σ kd a := by
  obtain ⟨-, -, h3⟩ := nxc_ok σ.2.2.2.2.2.2.1 a ha σ.2.2.1
  have e : tab σ.2.2.2.2.2.2.1 a σ.2.2.1 = tab σ.2.2.2.2.2.2.1 y σ.2.2.1 := tab_same (fun i hi => by
    obtain ⟨k1, k2⟩ := h3 i hi
    refine ⟨⟨fun z => by omega, fun z => ?_⟩, ⟨fun z => ?_, fun z => by omega⟩⟩
    · rcases Nat.lt_or_ge a (σ.2.2.2.2.2.2.1 i 4) with c | c
      · have := k1 c; omega
      · exact c
    · have := k2 z; omega)
  unfold yrN cst
  rw [e]
set_option maxHeartbeats 1000000 in
theorem SP_stays_wp {σ : Sg} {M : Mem} (v kd : Int32) (hw : WF σ) (h : RC M σ) : wp (SP_stays v kd M) (EC (R_stays σ v kd) M) := by
  have h7 : σ.1 ≤ 7 := hw.2.1
  unfold SP_stays R_stays
  rw [SP_isSameness_eq, bind_s]
  simp only [cI_0]
  by_cases hk : inrB kd 5 = true
  · rw [if_neg (not_not_intro hk), if_pos hk]
    show wp (if nI 0 ≤ v then if v ≤ nI 100 then _ else _ else _) _
    rw [bnd (by omega) (by omega)]
    rcases oB_v v 0 100 with e | e | e
    · simp only [e, if_true]
      exact SP_no4 h rfl_hi
    · simp only [e, if_true, if_false, show ¬ (6 = 4) by decide]
      exact SP_no6 h rfl_hi
    simp only [e, if_false, show ¬ (0 = 4) by decide, show ¬ (0 = 6) by decide]
    obtain ⟨y0, -, hy0, rfl⟩ := oB_0 (by omega) e
    obtain ⟨k, hk5, rfl⟩ := inr_of (inrB_iff.mp hk) (by omega)
    rw [nat3 (by omega), nI_toInt (by omega), show ((y0 : Int)).toNat = y0 from rfl]
    obtain ⟨N, hN⟩ : ∃ N, N = yrN σ k := ⟨_, rfl⟩
    rw [← hN]
    have hNl : ∀ y, N y < 2 ^ 31 := fun y => by rw [hN]; exact yrN_lt hw
    have hfields : ∀ M', RC M' σ → ∀ a, a ≤ 100 → Td_nextChange (nI a) M' = some (nI (nxc σ.2.2.2.2.2.2.1 a σ.2.2.1)) := fun M' h' a ha =>
      Td_nextChange_eq hw.2.2.2.1 ha h'.2.2.1 h'.2.2.2.2.2.2.1 (fun i hi => by have := hw.2.2.2.2.2.2.2.1 i hi; exact ⟨this.2.2.2.2.2.2.1, this.2.2.2.2.2.2.2⟩)
    have hpart : ∀ M', RC M' σ → ∀ y, y ≤ 100 → wp (SP_partOfYear (nI y) (nI k) 26 M') (fun M'' => Fr SCR M' M'' ∧ RC M'' σ ∧ Pa_number 26 M'' = some (nI (N y))) := fun M' h' y hy => by
      refine wp_mono (SP_partOfYear_wp (Or.inl rfl) hy hk5 hw h') (fun M'' h'' => ?_)
      obtain ⟨f, p⟩ := h''
      have g := f.mo (SCRy 26 (Or.inl rfl))
      exact ⟨g, h'.fr g, by rw [Pa_number_eq isP_26 h7 p, hN]; rfl⟩
    refine wp_bind (hpart M h y0 hy0) (fun M2 h2 => ?_)
    obtain ⟨f2, r2, e2⟩ := h2
    obtain ⟨n1, n2, -⟩ := nxc_ok σ.2.2.2.2.2.2.1 y0 hy0 σ.2.2.1
    rw [e2, bind_s, hfields M2 r2 y0 hy0, bind_s]
    have hfin : ∀ t a, Fr SCR M t → RC t σ → fstD N y0 = a → y0 < a → wp (some (nI a - nI y0, t)) (EC (σ, nI (fstD N y0 - y0)) M) := fun t a hf hr he hlt => by
      rw [he, nI_sub (by omega)]
      exact wp_some (ec_ok hr hf.hi)
    refine LOOP_up2 (fun c (v4 : Int32) (t : Mem) => (v4, nI c, t)) 101 (by omega) (fun c v4 t => Fr SCR M t ∧ RC t σ ∧ ∃ a, v4 = nI a ∧ c + y0 + 1 ≤ a ∧ a ≤ 101 ∧ ∀ y, y0 < y → y < a → N y = N y0) (fun o => wp o _) ?_ ?_ 0 _ M2 (by omega) ⟨f2, r2, _, rfl, by omega, n1, fun y h1 h2 => by rw [hN]; exact yrN_same hy0 (by omega) h2⟩
    · rintro c v4 t ag hc ⟨hf, hr, a, rfl, k1, k2, k3⟩ ih
      show wp (SP_stays_L68 (nI k) (nI (N y0)) _ ag (nI a) (nI c) t) _
      unfold SP_stays_L68
      rw [if_neg (by rw [show (100 : Int32) = nI 100 from rfl, nI_ltI (by omega) (by omega)]; omega)]
      by_cases c1 : a = 101
      · subst c1
        rw [if_pos (by decide)]
        exact hfin t 101 hf hr (fstD_none k3) (by omega)
      · rw [if_neg (by rw [show (100 : Int32) = nI 100 from rfl, nI_ltI (by omega) (by omega)]; omega)]
        refine wp_bind (hpart t hr a (by omega)) (fun M4 h4 => ?_)
        obtain ⟨f4, r4, e4⟩ := h4
        rw [e4, bind_s]
        by_cases c2 : N a = N y0
        · rw [if_pos (by rw [c2]), hfields M4 r4 a (by omega), bind_s, nI_1]
          obtain ⟨m1, m2, -⟩ := nxc_ok σ.2.2.2.2.2.2.1 a (by omega) σ.2.2.1
          refine ih _ M4 ⟨hf.tr f4, r4, _, rfl, by omega, m1, fun y h1 h2 => ?_⟩
          rcases Nat.lt_or_ge y a with c3 | c3
          · exact k3 y h1 c3
          · rw [← c2, hN]; exact yrN_same (by omega) c3 h2
        · rw [if_neg (by rw [nI_eq (hNl _) (hNl _)]; exact c2)]
          exact hfin M4 a (hf.tr f4) r4 (fstD_hit (by omega) (by omega) c2 k3) (by omega)
    · rintro v4 t ag ⟨hf, hr, a, rfl, k1, k2, k3⟩
      show wp (SP_stays_L68 (nI k) (nI (N y0)) _ ag (nI a) (nI 101) t) _
      exfalso; omega
  · rw [if_pos hk, if_neg hk]
    exact SP_no1 h rfl_hi
set_option maxHeartbeats 1000000 in
theorem MD_stays_wp {σ : Sg} {M : Mem} (v kd : Int32) (hw : WF σ) (h : RM M σ) : wp (MD_stays v kd M) (EM (R_stays σ v kd) M) := by
  have h7 : σ.1 ≤ 7 := hw.2.1
  unfold MD_stays R_stays
  rw [MD_isSameness_eq, bind_s]
  simp only [cI_0]
  by_cases hk : inrB kd 5 = true
  · rw [if_neg (not_not_intro hk), if_pos hk, MD_out_oB (lo := 0) (hi := 100) rfl rfl, bind_s]
    rcases oB_v v 0 100 with e | e | e
    · simp only [e, if_true, if_false, neg_4]
      exact MD_no4 h rfl_lo
    · simp only [e, if_true, if_false, neg_6, show ¬ (6 = 4) by decide]
      exact MD_no6 h rfl_lo
    simp only [e, if_true, if_false, neg_0, show ¬ (0 = 4) by decide, show ¬ (0 = 6) by decide]
    obtain ⟨y0, -, hy0, rfl⟩ := oB_0 (by omega) e
    obtain ⟨k, hk5, rfl⟩ := inr_of (inrB_iff.mp hk) (by omega)
    rw [nat3 (by omega), nI_toInt (by omega), show ((y0 : Int)).toNat = y0 from rfl]
    obtain ⟨N, hN⟩ : ∃ N, N = yrN σ k := ⟨_, rfl⟩
    rw [← hN]
    have hNl : ∀ y, N y < 2 ^ 31 := fun y => by rw [hN]; exact yrN_lt hw
    have hpart : ∀ M', RM M' σ → ∀ y, y ≤ 100 → wp (MD_coarsestOn (nI y) (nI k) M') (fun r => Fr SMR M' r.2 ∧ RM r.2 σ ∧ r.1 = nI (N y)) := fun M' h' y hy => by
      refine wp_mono (MD_coarsestOn_wp hy hk5 hw h') (fun r hr => ?_)
      have g := hr.1.mo SMRy
      exact ⟨g, h'.fr g, by rw [hr.2, hN]; rfl⟩
    refine wp_bnd2 (hpart M h y0 hy0) (fun r4 M2 h2 => ?_)
    obtain ⟨f2, r2, e2⟩ := h2
    rw [show r4 = _ from e2]
    have hfin : ∀ t c, Fr SMR M t → RM t σ → fstD N y0 = y0 + c → wp (some (nI c, t)) (EM (σ, nI (fstD N y0 - y0)) M) := fun t c hf hr he => by
      rw [he, show y0 + c - y0 = c by omega]
      exact wp_some (em_ok hr hf.lo)
    refine LOOP_up (fun c (t : Mem) => (nI c, t)) (101 - y0) (by omega) (fun c t => Fr SMR M t ∧ RM t σ ∧ 1 ≤ c ∧ ∀ y, y0 < y → y < y0 + c → N y = N y0) (fun o => wp o _) ?_ ?_ 1 M2 (by omega) ⟨f2, r2, by omega, fun y h1 h2 => by omega⟩
    · rintro c t ag hc ⟨hf, hr, hc1, k3⟩ ih
      show wp (MD_stays_L44 (nI y0) (nI k) (nI (N y0)) _ ag (nI c) t) _
      unfold MD_stays_L44
      rw [nI_add, if_neg (by rw [show (100 : Int32) = nI 100 from rfl, nI_ltI (by omega) (by omega)]; omega)]
      refine wp_bnd2 (hpart t hr (y0 + c) (by omega)) (fun r5 M4 h4 => ?_)
      obtain ⟨f4, r4, e4⟩ := h4
      rw [show r5 = _ from e4]
      by_cases c2 : N (y0 + c) = N y0
      · rw [if_pos (by rw [c2]), nI_1]
        refine ih M4 ⟨hf.tr f4, r4, by omega, fun y h1 h2 => ?_⟩
        by_cases c3 : y = y0 + c
        · rw [c3]; exact c2
        · exact k3 y h1 (by omega)
      · rw [if_neg (by rw [nI_eq (hNl _) (hNl _)]; exact c2)]
        exact hfin M4 c (hf.tr f4) r4 (fstD_hit (by omega) (by omega) c2 k3)
    · rintro t ag ⟨hf, hr, hc1, k3⟩
      show wp (MD_stays_L44 (nI y0) (nI k) (nI (N y0)) _ ag (nI (101 - y0)) t) _
      unfold MD_stays_L44
      rw [nI_add, if_pos (by rw [show (100 : Int32) = nI 100 from rfl, nI_ltI (by omega) (by omega)]; omega)]
      refine hfin t _ hf hr ?_
      rw [show y0 + (101 - y0) = 101 by omega]
      exact fstD_none (fun y h1 h2 => k3 y h1 (by omega))
  · rw [if_pos hk, if_neg hk]
    exact MD_no1 h rfl_lo
