/-! by hand: tie, degree, parting, newcomer: both sides -/
theorem cI_n0 {p : Prop} [Decidable p] : (cI p = nI 0) ↔ ¬ p := cI_0
theorem SP_look {σ : Sg} {M : Mem} {y' : Nat} (hy : y' ≤ 100) (hw : WF σ) (h : RC M σ) : wp (SP_lookAt (nI y') M) (fun M' => Fr [3] M M' ∧ Tbl M' 3 (tab σ.2.2.2.2.2.2.1 y' σ.2.2.1)) := by
  obtain ⟨n, y, nt, tb, nc, ma, tf, tp, nf, rf⟩ := σ
  obtain ⟨w1, w2, w3, w4, w5, w6, w7, w8, w9, w10⟩ := hw
  obtain ⟨a1, a2, a3, a4, a5, a6, a7, a8, a9, a10⟩ := h
  exact SP_lookAt_wp hy w2 w4 w8 a3 a7
theorem MD_look {σ : Sg} {M : Mem} {y' : Nat} (hy : y' ≤ 100) (hw : WF σ) (h : RM M σ) : wp (MD_findTies (nI y') M) (fun M' => Fr [49] M M' ∧ Tbl M' 49 (tab σ.2.2.2.2.2.2.1 y' σ.2.2.1)) := by
  obtain ⟨n, y, nt, tb, nc, ma, tf, tp, nf, rf⟩ := σ
  obtain ⟨w1, w2, w3, w4, w5, w6, w7, w8, w9, w10⟩ := hw
  obtain ⟨a1, a2, a3, a4, a5, a6, a7, a8, a9, a10⟩ := h
  exact MD_findTies_wp hy w2 w4 w8 a3 a7
theorem SCR3 : ∀ a ∈ [3], a ∈ SCR := by decide
theorem SMR49 : ∀ a ∈ [49], a ∈ SMR := by decide
theorem SCR26 : ∀ a ∈ [26, 26 + 1], a ∈ SCR := by decide
theorem SCR28 : ∀ a ∈ [28, 28 + 1], a ∈ SCR := by decide
theorem SMR50 : ∀ a ∈ [50], a ∈ SMR := by decide
theorem SMR51 : ∀ a ∈ [51], a ∈ SMR := by decide
theorem SMR53 : ∀ a ∈ [53], a ∈ SMR := by decide
/-- the table of the year -/
abbrev sS (σ : Sg) : Nat → Nat := tab σ.2.2.2.2.2.2.1 σ.2.1 σ.2.2.1
/-! 8 tie -/
def R_tie (σ : Sg) (k x z : Int32) : Ans := if inrB k 3 = true ∧ inrB x σ.1 = true ∧ inrB z σ.1 = true ∧ x ≠ z then (σ, nI (sg (sS σ) k.toInt.toNat x.toInt.toNat z.toInt.toNat)) else no σ 1
theorem nat3 {k : Nat} (h : k < 2 ^ 31) : (nI k).toInt.toNat = k := by rw [nI_toInt h]; rfl
theorem SP_tie_wp {σ : Sg} {M : Mem} (k x z : Int32) (hw : WF σ) (h : RC M σ) : wp (SP_tie k x z M) (EC (R_tie σ k x z) M) := by
  have hL := fun {M' : Mem} (h' : RC M' σ) => SP_look (y' := σ.2.1) hw.2.2.1 hw h'
  have hn : M 1 2 = nI σ.1 := h.1
  have hy : M 0 12 = nI σ.2.1 := h.2.1
  have h7 : σ.1 ≤ 7 := hw.2.1
  unfold SP_tie R_tie
  rw [SP_isKind_eq, bind_s, jp_e, To_lives_eq hn h7, To_lives_eq hn h7, hy]
  simp only [bind_s, cI_0]
  by_cases h1 : inrB k 3 = true
  · by_cases h2 : inrB x σ.1 = true
    · by_cases h3 : inrB z σ.1 = true
      · by_cases h4 : x = z
        · simp only [h1, h2, h3, h4, not_true_eq_false, if_false, if_true, ne_eq, and_false]
          exact SP_no1 h rfl_hi
        · simp only [h1, h2, h3, h4, not_true_eq_false, not_false_eq_true, if_false, if_true, ne_eq, and_true]
          obtain ⟨a, ha, rfl⟩ := inr_of (inrB_iff.mp h1) (by omega)
          obtain ⟨b, hb, rfl⟩ := inr_of (inrB_iff.mp h2) (by omega)
          obtain ⟨c, hc, rfl⟩ := inr_of (inrB_iff.mp h3) (by omega)
          refine wp_bind (hL h) (fun M2 hM2 => ?_)
          obtain ⟨f2, t2⟩ := hM2
          rw [To_strength_eq t2 ha (by omega) (by omega), bind_s, nat3 (by omega), nat3 (by omega), nat3 (by omega)]
          exact wp_some ⟨rfl, h.fr (f2.mo SCR3), (f2.mo SCR3).hi⟩
      · simp only [h1, h2, h3, not_true_eq_false, not_false_eq_true, if_false, if_true, false_and, and_false]
        exact SP_no1 h rfl_hi
    · simp only [h1, h2, not_true_eq_false, not_false_eq_true, if_false, if_true, false_and, and_false]
      exact SP_no1 h rfl_hi
  · simp only [h1, not_false_eq_true, if_false, if_true, false_and]
    exact SP_no1 h rfl_hi
theorem MD_tie_wp {σ : Sg} {M : Mem} (k x z : Int32) (hw : WF σ) (h : RM M σ) : wp (MD_tie k x z M) (EM (R_tie σ k x z) M) := by
  have hL := fun {M' : Mem} (h' : RM M' σ) => MD_look (y' := σ.2.1) hw.2.2.1 hw h'
  have hn : M 33 8 = nI σ.1 := h.1
  have hy : M 33 10 = nI σ.2.1 := h.2.1
  have h7 : σ.1 ≤ 7 := hw.2.1
  unfold MD_tie R_tie
  rw [MD_isKind_eq, bind_s, jp_e, MD_isPerson_eq hn h7, MD_isPerson_eq hn h7, hy]
  simp only [bind_s, cI_0]
  by_cases h1 : inrB k 3 = true
  · by_cases h2 : inrB x σ.1 = true
    · by_cases h3 : inrB z σ.1 = true
      · by_cases h4 : x = z
        · simp only [h1, h2, h3, h4, not_true_eq_false, if_false, if_true, ne_eq, and_false]
          exact MD_no1 h rfl_lo
        · simp only [h1, h2, h3, h4, not_true_eq_false, not_false_eq_true, if_false, if_true, ne_eq, and_true]
          obtain ⟨a, ha, rfl⟩ := inr_of (inrB_iff.mp h1) (by omega)
          obtain ⟨b, hb, rfl⟩ := inr_of (inrB_iff.mp h2) (by omega)
          obtain ⟨c, hc, rfl⟩ := inr_of (inrB_iff.mp h3) (by omega)
          refine wp_bind (hL h) (fun M2 hM2 => ?_)
          obtain ⟨f2, t2⟩ := hM2
          rw [MD_strong_eq t2 ha (by omega) (by omega), bind_s, nat3 (by omega), nat3 (by omega), nat3 (by omega)]
          exact wp_some ⟨rfl, h.fr (f2.mo SMR49), (f2.mo SMR49).lo⟩
      · simp only [h1, h2, h3, not_true_eq_false, not_false_eq_true, if_false, if_true, false_and, and_false]
        exact MD_no1 h rfl_lo
    · simp only [h1, h2, not_true_eq_false, not_false_eq_true, if_false, if_true, false_and, and_false]
      exact MD_no1 h rfl_lo
  · simp only [h1, not_false_eq_true, if_false, if_true, false_and]
    exact MD_no1 h rfl_lo
/-! 9 degree -/
def dgr (S : Nat → Nat) (n k x : Nat) (b : Bool) : Nat := sm n (fun z => if (if b then 0 < sg S k z x else 0 < sg S k x z) then 1 else 0)
def R_degree (σ : Sg) (k x : Int32) (b : Bool) : Ans := if inrB k 3 = true ∧ inrB x σ.1 = true then (σ, nI (dgr (sS σ) σ.1 k.toInt.toNat x.toInt.toNat b)) else no σ 1
theorem SP_degree_wp {σ : Sg} {M : Mem} (k x : Int32) (b : Bool) (hw : WF σ) (h : RC M σ) : wp (SP_degree k x (cI (b = true)) M) (EC (R_degree σ k x b) M) := by
  have hL := fun {M' : Mem} (h' : RC M' σ) => SP_look (y' := σ.2.1) hw.2.2.1 hw h'
  have hn : M 1 2 = nI σ.1 := h.1
  have hy : M 0 12 = nI σ.2.1 := h.2.1
  have h7 : σ.1 ≤ 7 := hw.2.1
  unfold SP_degree R_degree
  rw [SP_isKind_eq, bind_s, jp_e, To_lives_eq hn h7, hy]
  simp only [bind_s, cI_0]
  by_cases h1 : inrB k 3 = true
  · by_cases h2 : inrB x σ.1 = true
    · simp only [h1, h2, not_true_eq_false, if_false, if_true, and_true]
      obtain ⟨a, ha, rfl⟩ := inr_of (inrB_iff.mp h1) (by omega)
      obtain ⟨c, hc, rfl⟩ := inr_of (inrB_iff.mp h2) (by omega)
      refine wp_bind (hL h) (fun M2 hM2 => ?_)
      obtain ⟨f2, t2⟩ := hM2
      rw [To_tiesOf_eq t2 ((congrFun (f2 1 (by decide)) 2).trans hn) h7 ha (by omega), bind_s, nat3 (by omega), nat3 (by omega)]
      exact wp_some ⟨rfl, h.fr (f2.mo SCR3), (f2.mo SCR3).hi⟩
    · simp only [h1, h2, not_true_eq_false, not_false_eq_true, if_false, if_true, and_false]
      exact SP_no1 h rfl_hi
  · simp only [h1, not_false_eq_true, if_false, if_true, false_and]
    exact SP_no1 h rfl_hi
theorem add0 (x : Int32) : x + 0 = x := Int32.add_zero x
theorem MD_degree_wp {σ : Sg} {M : Mem} (k x : Int32) (b : Bool) (hw : WF σ) (h : RM M σ) : wp (MD_degree k x (cI (b = true)) M) (EM (R_degree σ k x b) M) := by
  have hL := fun {M' : Mem} (h' : RM M' σ) => MD_look (y' := σ.2.1) hw.2.2.1 hw h'
  have hn : M 33 8 = nI σ.1 := h.1
  have hy : M 33 10 = nI σ.2.1 := h.2.1
  have h7 : σ.1 ≤ 7 := hw.2.1
  unfold MD_degree R_degree
  rw [MD_isKind_eq, bind_s, jp_e, MD_isPerson_eq hn h7, hy]
  simp only [bind_s, cI_0]
  by_cases h1 : inrB k 3 = true
  · by_cases h2 : inrB x σ.1 = true
    · simp only [h1, h2, not_true_eq_false, if_false, if_true, and_true]
      obtain ⟨a, ha, rfl⟩ := inr_of (inrB_iff.mp h1) (by omega)
      obtain ⟨c, hc, rfl⟩ := inr_of (inrB_iff.mp h2) (by omega)
      refine wp_bind (hL h) (fun M2 hM2 => ?_)
      obtain ⟨f2, t2⟩ := hM2
      rw [nat3 (by omega), nat3 (by omega)]
      have hn2 : M2 33 8 = nI σ.1 := (congrFun (f2 33 (by decide)) 8).trans hn
      refine LOOP_up (fun z (t : Unit) => (nI (dgr (sS σ) z a c b), nI z)) σ.1 (by omega) (fun _ _ => True) (fun o => wp o _) ?_ ?_ 0 () (by omega) trivial
      · rintro z - ag hz - ih
        show wp (MD_degree_L35 _ _ _ M2 _ ag _ (nI z)) _
        unfold MD_degree_L35
        rw [hn2]
        simp (disch := omega) only [nI_leI, show ¬ σ.1 ≤ z by omega, if_false, cI_0]
        have es : dgr (sS σ) (z + 1) a c b = dgr (sS σ) z a c b + if (if b then 0 < sg (sS σ) a z c else 0 < sg (sS σ) a c z) then 1 else 0 := rfl
        have ih := ih () trivial
        rw [es] at ih
        cases b with
        | false =>
          simp only [Bool.false_eq_true, not_false_eq_true, if_true, MD_has_eq t2 ha (show c < 7 by omega) (show z < 7 by omega), bind_s, cI_0, cI_n0, nm_e', add0, i32lit, nI_add]
          refine wp_ite (fun hc => ?_) (fun hc => ?_)
          · simp only [hc, Bool.false_eq_true, if_false] at ih; exact ih
          · simp only [Decidable.not_not] at hc
            simp only [hc, Bool.false_eq_true, if_false, if_true] at ih; exact ih
        | true =>
          simp only [not_true_eq_false, if_false, MD_has_eq t2 ha (show z < 7 by omega) (show c < 7 by omega), bind_s, cI_0, cI_n0, nm_e', add0, i32lit, nI_add]
          refine wp_ite (fun hc => ?_) (fun hc => ?_)
          · simp only [hc, if_true, if_false] at ih; exact ih
          · simp only [Decidable.not_not] at hc
            simp only [hc, if_true] at ih; exact ih
      · rintro - ag -
        show wp (MD_degree_L35 _ _ _ M2 _ ag _ (nI σ.1)) _
        unfold MD_degree_L35
        rw [hn2]
        simp (disch := omega) only [nI_leI, Nat.le_refl, if_true]
        exact wp_some ⟨rfl, h.fr (f2.mo SMR49), (f2.mo SMR49).lo⟩
    · simp only [h1, h2, not_true_eq_false, not_false_eq_true, if_false, if_true, and_false]
      exact MD_no1 h rfl_lo
  · simp only [h1, not_false_eq_true, if_false, if_true, false_and]
    exact MD_no1 h rfl_lo
/-! 10 parting -/
def R_parting (σ : Sg) (v : Int32) : Ans := match opn σ.1 v with
  | some p => (σ, nI (top p σ.1))
  | none => no σ 1
theorem nI_nn {n : Nat} (h : n < 2 ^ 31) : (0 ≤ nI n) := nI_pos' h
theorem one_ne0 : ¬ (1 : Int32) = 0 := by decide
theorem SP_parting_wp {σ : Sg} {M : Mem} (v : Int32) (hw : WF σ) (h : RC M σ) : wp (SP_parting v M) (EC (R_parting σ v) M) := by
  have hn : M 1 2 = nI σ.1 := h.1
  unfold SP_parting R_parting
  rw [hn]
  refine wp_bnd2 (Pa_readNumber_wp isP_26 hw.1 hw.2.1) (fun r M1 hr => ?_)
  obtain ⟨f1, hr⟩ := hr
  have g1 : Fr SCR M M1 := f1.mo SCR26
  rcases hr with ⟨p, e, rfl, hp⟩ | ⟨e, rfl⟩
  · rw [e, if_neg one_ne0]
    exact wp_some ⟨hp.2.1, h.fr g1, g1.hi⟩
  · rw [e, if_pos rfl]
    exact SP_no1 (h.fr g1) g1.hi
theorem RGS.top7 {n : Nat} {p : Nat → Nat} (h : RGS n p) : top p n ≤ n := h.le n (Nat.le_refl _)
theorem MD_parting_wp {σ : Sg} {M : Mem} (v : Int32) (hw : WF σ) (h : RM M σ) : wp (MD_parting v M) (EM (R_parting σ v) M) := by
  have hn : M 33 8 = nI σ.1 := h.1
  have h7 : σ.1 ≤ 7 := hw.2.1
  unfold MD_parting R_parting
  refine wp_bnd2 (MD_opens_wp (Or.inl rfl) hw.1 hw.2.1 hn) (fun r M1 hr => ?_)
  obtain ⟨f1, hr⟩ := hr
  have g1 : Fr SMR M M1 := f1.mo SMR50
  rcases hr with ⟨p, e, e2, hp⟩ | ⟨e, e2⟩
  · have ht := (opn_some e).1.top7
    simp only at e2
    rw [e, e2, if_pos (nI_nn (by omega))]
    exact wp_some ⟨rfl, h.fr g1, g1.lo⟩
  · simp only at e2
    rw [e, e2, if_neg m1_nn]
    exact MD_no1 (h.fr g1) g1.lo
/-! 25 newcomer -/
def R_newcomer (σ : Sg) (k x : Int32) (b : Bool) : Ans := match σ with
  | (n, y, nt, tb, nc, ma, tf, tp, nf, rf) => if inrB k 3 = true ∧ inrB x n = true then (if nc < 6 then ((n, y, nt, tb, nc + 1, ma, tf, tp, (fun i => if i = nc then (fun j => if j = 0 then k.toInt.toNat else if j = 1 then x.toInt.toNat else if b then 1 else 0) else nf i), rf), nI (nc + 1)) else no σ 6) else no σ 1
theorem SP_newcomer_wp {σ : Sg} {M : Mem} (k x : Int32) (b : Bool) (hw : WF σ) (h : RC M σ) : wp (SP_newcomer k x (cI (b = true)) M) (EC (R_newcomer σ k x b) M) := by
  obtain ⟨n, y, nt, tb, nc, ma, tf, tp, nf, rf⟩ := σ
  obtain ⟨w1, w2, w3, w4, w5, w6, w7, w8, w9, w10⟩ := hw
  obtain ⟨a1, a2, a3, a4, a5, a6, a7, a8, a9, a10⟩ := id h
  unfold SP_newcomer R_newcomer
  dsimp only
  rw [SP_isKind_eq, bind_s, jp_e, To_lives_eq a1 w2, a5]
  simp only [bind_s, cI_0]
  by_cases h1 : inrB k 3 = true
  · by_cases h2 : inrB x n = true
    · simp only [h1, h2, not_true_eq_false, if_false, if_true, and_true]
      obtain ⟨a, ha, rfl⟩ := inr_of (inrB_iff.mp h1) (by omega)
      obtain ⟨c, hc, rfl⟩ := inr_of (inrB_iff.mp h2) (by omega)
      rw [nat3 (by omega), nat3 (by omega), show (6 : Int32) = nI 6 from rfl]
      simp (disch := omega) only [nI_ltI]
      by_cases h6 : nc < 6
      · have e11 : aln 11 = 6 := rfl
        have e12 : aln 12 = 6 := rfl
        have e13 : aln 13 = 6 := rfl
        simp only [h6, if_true]
        have hap : Nc_append (nI a) (nI c) (cI (b = true)) M = some (st2 (st2 (st2 (st2 M 11 nc (nI a)) 12 nc (nI c)) 13 nc (nI (if b then 1 else 0))) 10 3 (nI (nc + 1))) := by
          unfold Nc_append
          rw [a5, SP_put_nI (by omega) (by omega), bind_s, st2_n (by decide), a5, SP_put_nI (by omega) (by omega), bind_s, st2_n (by decide), st2_n (by decide), a5, jp_e]
          simp only [cI_0]
          cases b with
          | false =>
            simp only [Bool.false_eq_true, not_false_eq_true, if_true, if_false]
            rw [SP_put_nI (by omega) (by omega), bind_s, nm_e', st2_n (by decide), st2_n (by decide), st2_n (by decide), a5, ← nI_add]
            rfl
          | true =>
            simp only [not_true_eq_false, if_true, if_false]
            rw [SP_put_nI (by omega) (by omega), bind_s, nm_e', st2_n (by decide), st2_n (by decide), st2_n (by decide), a5, ← nI_add]
            rfl
        rw [hap, bind_s]
        refine wp_some ⟨?_, ⟨a1, a2, a3, a4, ?_, a6, a7, a8, fun i hi => ?_, a10⟩, fun q hq => ?_⟩
        · show (st2 (st2 (st2 (st2 M 11 nc (nI a)) 12 nc (nI c)) 13 nc (nI (if b then 1 else 0))) 10 3 (nI (nc + 1))) 10 3 = _
          rw [st2_s, upd_s]
        · show (st2 (st2 (st2 (st2 M 11 nc (nI a)) 12 nc (nI c)) 13 nc (nI (if b then 1 else 0))) 10 3 (nI (nc + 1))) 10 3 = _
          rw [st2_s, upd_s]
        · show st2 (st2 (st2 (st2 M 11 nc (nI a)) 12 nc (nI c)) 13 nc (nI (if b then 1 else 0))) 10 3 (nI (nc + 1)) 11 i = _ ∧ st2 (st2 (st2 (st2 M 11 nc (nI a)) 12 nc (nI c)) 13 nc (nI (if b then 1 else 0))) 10 3 (nI (nc + 1)) 12 i = _ ∧ st2 (st2 (st2 (st2 M 11 nc (nI a)) 12 nc (nI c)) 13 nc (nI (if b then 1 else 0))) 10 3 (nI (nc + 1)) 13 i = _
          rw [st2_n (by decide), st2_n (by decide), st2_n (by decide), st2_s, st2_n (by decide), st2_n (by decide), st2_s, st2_n (by decide), st2_n (by decide), st2_s, st2_n (by decide), st2_n (by decide)]
          by_cases e : i = nc
          · subst e
            rw [upd_s, upd_s, upd_s]
            simp
          · rw [upd_n e, upd_n e, upd_n e]
            simp only [e, if_false]
            exact a9 i (by omega)
        · show st2 (st2 (st2 (st2 M 11 nc (nI a)) 12 nc (nI c)) 13 nc (nI (if b then 1 else 0))) 10 3 (nI (nc + 1)) q = _
          rw [st2_n (by omega), st2_n (by omega), st2_n (by omega), st2_n (by omega)]
      · simp only [h6, if_false]
        exact SP_no6 h rfl_hi
    · simp only [h1, h2, not_true_eq_false, not_false_eq_true, if_false, if_true, and_false]
      exact SP_no1 h rfl_hi
  · simp only [h1, not_false_eq_true, if_false, if_true, false_and]
    exact SP_no1 h rfl_hi
theorem MD_newcomer_wp {σ : Sg} {M : Mem} (k x : Int32) (b : Bool) (hw : WF σ) (h : RM M σ) : wp (MD_newcomer k x (cI (b = true)) M) (EM (R_newcomer σ k x b) M) := by
  obtain ⟨n, y, nt, tb, nc, ma, tf, tp, nf, rf⟩ := σ
  obtain ⟨w1, w2, w3, w4, w5, w6, w7, w8, w9, w10⟩ := hw
  obtain ⟨a1, a2, a3, a4, a5, a6, a7, a8, a9, a10⟩ := id h
  unfold MD_newcomer R_newcomer
  dsimp only
  rw [MD_isKind_eq, bind_s, jp_e, MD_isPerson_eq a1 w2, a5]
  simp only [bind_s, cI_0]
  by_cases h1 : inrB k 3 = true
  · by_cases h2 : inrB x n = true
    · simp only [h1, h2, not_true_eq_false, if_false, if_true, and_true]
      obtain ⟨a, ha, rfl⟩ := inr_of (inrB_iff.mp h1) (by omega)
      obtain ⟨c, hc, rfl⟩ := inr_of (inrB_iff.mp h2) (by omega)
      rw [nat3 (by omega), nat3 (by omega), show (6 : Int32) = nI 6 from rfl]
      simp (disch := omega) only [nI_eq]
      by_cases h6 : nc < 6
      · simp (disch := omega) only [h6, show ¬ nc = 6 by omega, if_true, if_false, inb_nI, nm_e', wr_nI]
        rw [st2_n (by decide), a5]
        simp (disch := omega) only [h6, if_true, inb_nI, wr_nI]
        rw [st2_n (by decide), st2_n (by decide), a5]
        simp (disch := omega) only [h6, if_true, inb_nI, wr_nI, bz_cI]
        rw [st2_n (k := 60) (by decide), st2_n (k := 59) (by decide), st2_n (k := 58) (by decide), a5, show (1 : Int32) = nI 1 from rfl, nI_add, cI_nI]
        have es : ∀ j, j ≠ 33 → st2 (st2 (st2 (st2 M 58 nc (nI a)) 59 nc (nI c)) 60 nc (nI (if b = true then 1 else 0))) 33 33 (nI (nc + 1)) 33 j = M 33 j := fun j hj => by rw [st2_s, upd_n hj, st2_n (by decide), st2_n (by decide), st2_n (by decide)]
        refine wp_some ⟨?_, ⟨(es 8 (by decide)).trans a1, (es 10 (by decide)).trans a2, (es 9 (by decide)).trans a3, (es 12 (by decide)).trans a4, ?_, a6, a7, a8, fun i hi => ?_, a10⟩, fun q hq => ?_⟩
        · show (st2 (st2 (st2 (st2 M 58 nc (nI a)) 59 nc (nI c)) 60 nc (nI (if b = true then 1 else 0))) 33 33 (nI (nc + 1))) 33 33 = _
          rw [st2_s, upd_s]
        · show (st2 (st2 (st2 (st2 M 58 nc (nI a)) 59 nc (nI c)) 60 nc (nI (if b = true then 1 else 0))) 33 33 (nI (nc + 1))) 33 33 = _
          rw [st2_s, upd_s]
        · show st2 (st2 (st2 (st2 M 58 nc (nI a)) 59 nc (nI c)) 60 nc (nI (if b = true then 1 else 0))) 33 33 (nI (nc + 1)) 58 i = _ ∧ st2 (st2 (st2 (st2 M 58 nc (nI a)) 59 nc (nI c)) 60 nc (nI (if b = true then 1 else 0))) 33 33 (nI (nc + 1)) 59 i = _ ∧ st2 (st2 (st2 (st2 M 58 nc (nI a)) 59 nc (nI c)) 60 nc (nI (if b = true then 1 else 0))) 33 33 (nI (nc + 1)) 60 i = _
          rw [st2_n (by decide), st2_n (by decide), st2_n (by decide), st2_s, st2_n (by decide), st2_n (by decide), st2_s, st2_n (by decide), st2_n (by decide), st2_s, st2_n (by decide), st2_n (by decide)]
          by_cases e : i = nc
          · subst e
            rw [upd_s, upd_s, upd_s]
            simp
          · rw [upd_n e, upd_n e, upd_n e]
            simp only [e, if_false]
            exact a9 i (by omega)
        · show st2 (st2 (st2 (st2 M 58 nc (nI a)) 59 nc (nI c)) 60 nc (nI (if b = true then 1 else 0))) 33 33 (nI (nc + 1)) q = _
          rw [st2_n (by omega), st2_n (by omega), st2_n (by omega), st2_n (by omega)]
      · have e6 : nc = 6 := by omega
        subst e6
        simp only [if_true, show ¬ (6 < 6) by omega, if_false]
        exact MD_no6 h rfl_lo
    · simp only [h1, h2, not_true_eq_false, not_false_eq_true, if_false, if_true, and_false]
      exact MD_no1 h rfl_lo
  · simp only [h1, not_false_eq_true, if_false, if_true, false_and]
    exact MD_no1 h rfl_lo
