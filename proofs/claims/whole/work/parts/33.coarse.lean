/-! by hand: split till nothing splits: the reference; judge, coarsest -/
theorem cst_fix {f : (Nat → Nat) → Nat → Nat} {n : Nat} {q : Nat → Nat} (h : top (f q) n = top q n) : ∀ k, cstF f n k q = q
  | 0 => rfl
  | k + 1 => by rw [cstF_s, if_pos h]
theorem sg_fin {S : Nat → Nat} {n : Nat} {ma : Nat → Nat} {kd : Nat} {q : Nat → Nat} (hq : RGS n q) : top q n ≤ top (spl S n ma kd q) n ∧ (top q n = top (spl S n ma kd q) n → ∀ x, x < n → q x = spl S n ma kd q x) := finer hq (spl_RGS S n ma kd q) (fun _ _ _ _ e => spl_fine e)
theorem cn_eqs {p : Nat → Nat} {x y : Nat} (h : p x = p y) : cn p x = cn p y := by rw [cn_eq, cn_eq, fs_same h]
theorem dgA {n : Nat} {q : Nat → Nat} {M : Mem} {k : Nat} (hq : RGS n q) (h7 : n ≤ 7) (h : AR M k n (dg n (num q n))) : AR M k n q := h.cg (dg_num (fun x hx => by have := hq.ltn x hx; omega))
theorem num_lt7 {n : Nat} {q : Nat → Nat} (hq : RGS n q) (h7 : n ≤ 7) : num q n < 10 ^ n ∧ num q n < 2 ^ 31 := by
  have h1 := num_lt (p := q) (n := n) (fun x hx => by have := hq.ltn x hx; omega)
  have h2 := pw10 h7
  exact ⟨h1, by omega⟩
theorem opn_num {n : Nat} {q : Nat → Nat} (hq : RGS n q) (h7 : n ≤ 7) : opn n (nI (num q n)) = some (dg n (num q n)) := by
  have h1 := num_lt7 hq h7
  exact opn_nI h1.2 h1.1 (hq.cg (fun x hx => (dg_num (fun x hx => by have := hq.ltn x hx; omega) x hx).symm))
set_option maxHeartbeats 1000000 in
theorem MD_splits_wp {n kd : Nat} {p S ma : Nat → Nat} {M : Mem} (hw : TWF n ma S) (ht : TM M n ma S) (hp : AR M 50 n p) (hr : RGS n p) (hkd : kd < 5) : wp (MD_splits (nI kd) M) (fun r => Fr [50, 52, 53] M r.2 ∧ r.1 = nI (num (cstF (spl S n ma kd) n 7 p) n)) := by
  obtain ⟨w1, h7, w3, w4⟩ := id hw
  obtain ⟨fin, hfin⟩ : ∃ fin, fin = cstF (spl S n ma kd) n 7 p := ⟨_, rfl⟩
  rw [← hfin]
  have hfR : RGS n fin := by rw [hfin]; exact cst_RGS hr
  unfold MD_splits
  refine LOOP_inv (fun d (s : Int32 × Mem) => Fr [50, 52, 53] M s.2 ∧ ((s.1 = 0 ∧ AR s.2 50 n fin) ∨ (s.1 = 1 ∧ ∃ q, RGS n q ∧ AR s.2 50 n q ∧ cstF (spl S n ma kd) n d q = fin ∧ n - top q n < d))) (fun o => wp o _) ?_ FU 7 (1, M) (by unfold FU; omega) ⟨Fr.rf, Or.inr ⟨rfl, p, hr, hp, ?_, ?_⟩⟩
  · rintro d ⟨s, t⟩ ag ⟨hf, h⟩ ih
    show wp (MD_splits_L2 (nI kd) _ ag s t) _
    unfold MD_splits_L2
    dsimp only at h hf
    rcases h with ⟨rfl, ha⟩ | ⟨rfl, q, hq, ha, hc, hd⟩
    · rw [if_pos rfl]
      refine wp_bnd2 (MD_number_wp (p := fin) (by omega) (by omega) (by omega) rfl h7 (ht.fr hf (by decide) (by decide) (by decide)).2.1 ha (fun x hx => by have := hfR.ltn x hx; omega)) (fun r M2 hM2 => ?_)
      obtain ⟨f2, e2⟩ := hM2
      refine wp_some ⟨hf.tr (f2.mo (by simp)), ?_⟩
      rw [e2, num_cg (RGS_cn hfR)]
    · rw [if_neg (by decide)]
      have htt := ht.fr hf (by decide) (by decide) (by decide)
      have hq100 : ∀ z, z < n → q z < 100 := fun z hz => by have := hq.ltn z hz; omega
      let r := relB S n ma kd q
      refine LOOP_up (fun x (t : Mem) => (nI x, t)) n (by omega) (fun x u => Fr [52] t u ∧ AR u 52 x (rt r)) (fun o => wp o _) ?_ ?_ 0 t (by omega) ⟨Fr.rf, fun j hj => by omega⟩
      · rintro x u ag' hx ⟨hfu, hu⟩ ih'
        show wp (MD_splits_L8 (nI kd) _ ag' (nI x) u) _
        unfold MD_splits_L8
        rw [(htt.fr hfu (by decide) (by decide) (by decide)).2.1, if_neg (by rw [nI_leI (by omega) (by omega)]; omega), if_pos ((inb_nI (by omega)).mpr (by omega)), nm_e', nm_e', wr_nI (by omega)]
        have hst : Fr [52] t (st2 u 52 x (nI x)) := hfu.tr (Fr.st (by simp))
        refine LOOP_down (fun y (u' : Mem) => (nI y - 1, u')) (fun y u' => y ≤ x ∧ Fr [52] t u' ∧ AR u' 52 x (rt r) ∧ ((u' 52 x = nI x ∧ ∀ z, y ≤ z → z < x → r z x = false) ∨ ∃ g, u' 52 x = nI (rt r g) ∧ y ≤ g ∧ g < x ∧ r g x = true ∧ ∀ z, y ≤ z → z < g → r z x = false)) (fun o => wp o _) ?_ ?_ x _ (by omega) ⟨Nat.le_refl _, hst, ?_, Or.inl ⟨?_, fun z h1 h2 => by omega⟩⟩
        · rintro y v ag'' ⟨hy, hfv, hv, hg⟩ ih''
          show wp (MD_splits_L28 (nI kd) (nI x) _ ag'' (nI (y + 1) - 1) v) _
          unfold MD_splits_L28
          have hvt := htt.fr hfv (by decide) (by decide) (by decide)
          have hqv : AR v 50 n q := ha.fr (hfv 50 (by decide))
          have b1 := hq100 x hx
          have b2 := hq100 y (by omega)
          have i7 : inb (nI x) 7 := (inb_nI (by omega)).mpr (by omega)
          have j7 : inb (nI y) 7 := (inb_nI (by omega)).mpr (by omega)
          rw [nI_pred, if_neg (nI_pos (by omega)), if_pos i7, if_pos j7, i_m1, rd_nI (by omega), rd_nI (by omega), hqv x hx, hqv y (by omega)]
          simp only [if_pos i7, if_pos j7]
          simp (disch := omega) only [nI_eq, nm_e', rd_nI, wr_nI]
          have hno : r y x = false → wp (ag'' (nI y - 1, st2 v 52 x (v 52 x))) (fun r => Fr [50, 52, 53] M r.2 ∧ r.1 = nI (num fin n)) := fun hr => by
            have e : st2 v 52 x (v 52 x) = v := by
              funext a b
              by_cases e1 : a = 52
              · subst e1
                rw [st2_s]
                by_cases e2 : b = x
                · subst e2; rw [upd_s]
                · rw [upd_n e2]
              · rw [st2_n e1]
            rw [e]
            refine ih'' v ⟨by omega, hfv, hv, ?_⟩
            rcases hg with ⟨g1, g2⟩ | ⟨g, g1, g2, g3, g4, g5⟩
            · refine Or.inl ⟨g1, fun z h1 h2 => ?_⟩
              by_cases e : z = y
              · subst e; exact hr
              · exact g2 z (by omega) h2
            · refine Or.inr ⟨g, g1, by omega, g3, g4, fun z h1 h2 => ?_⟩
              by_cases e : z = y
              · subst e; exact hr
              · exact g5 z (by omega) h2
          by_cases e : q x = q y
          · rw [if_pos e, MD_areSo_eq hvt.1 hvt.2.1 h7 hvt.2.2 w3 hqv hq100 hkd (by omega) (by omega), bind_s]
            simp only [cI_0]
            by_cases s : soB S n ma q kd y x = true
            · rw [if_neg (not_not_intro s), hv y (by omega)]
              have hr : r y x = true := by show relB S n ma kd q y x = true; unfold relB; simp [e, s]
              refine ih'' _ ⟨by omega, hfv.tr (Fr.st (by simp)), fun j hj => ?_, Or.inr ⟨y, ?_, Nat.le_refl _, by omega, hr, fun z h1 h2 => by omega⟩⟩
              · rw [st2_s, upd_n (by omega)]; exact hv j hj
              · rw [st2_s, upd_s]
            · rw [if_pos s]
              exact hno (by show relB S n ma kd q y x = false; unfold relB; simp [b_f s])
          · rw [if_neg e]
            exact hno (by show relB S n ma kd q y x = false; unfold relB; simp [e])
        · rintro v ag'' ⟨hy, hfv, hv, hg⟩
          show wp (MD_splits_L28 (nI kd) (nI x) _ ag'' (nI 0 - 1) v) _
          unfold MD_splits_L28
          rw [if_pos down0, show (1 : Int32) = nI 1 from rfl, nI_add]
          refine ih' v ⟨hfv, fun j hj => ?_⟩
          by_cases e : j = x
          · subst e
            rcases hg with ⟨g1, g2⟩ | ⟨g, g1, g2, g3, g4, g5⟩
            · rw [g1]
              have : fr r j = j := ff_none (fun z hz => g2 z (Nat.zero_le _) hz)
              rw [rt_new (by omega)]
            · have : fr r j = g := ff_eq g3 g4 (fun z hz => g5 z (Nat.zero_le _) hz)
              rw [g1, rt_old (x := j) (by omega), this]
          · exact hv j (by omega)
        · intro j hj
          rw [st2_s, upd_n (by omega)]; exact hu j hj
        · rw [st2_s, upd_s]
      · rintro u ag' ⟨hfu, hu⟩
        show wp (MD_splits_L8 (nI kd) _ ag' (nI n) u) _
        unfold MD_splits_L8
        have hut := htt.fr hfu (by decide) (by decide) (by decide)
        rw [hut.2.1, if_pos (by rw [nI_leI (by omega) (by omega)]; omega)]
        have hqu : AR u 50 n q := ha.fr (hfu 50 (by decide))
        refine wp_bnd2 (MD_number_wp (p := q) (by omega) (by omega) (by omega) rfl h7 hut.2.1 hqu hq100) (fun r1 M2 hM2 => ?_)
        obtain ⟨f2, e2⟩ := hM2
        have hut2 := hut.fr f2 (by decide) (by decide) (by decide)
        refine wp_bnd2 (MD_number_wp (k := 52) (p := rt r) (by omega) (by omega) (by omega) rfl h7 hut2.2.1 (hu.fr (f2 52 (by decide))) (fun x hx => by have := (rt_all r x).1; omega)) (fun r2 M3 hM3 => ?_)
        obtain ⟨f3, e3⟩ := hM3
        have hut3 := hut2.fr f3 (by decide) (by decide) (by decide)
        dsimp only at e2 e3
        have hsR : RGS n (spl S n ma kd q) := spl_RGS S n ma kd q
        have e3' : r2 = nI (num (spl S n ma kd q) n) := by
          rw [e3, num_cg (fun x _ => cn_rt r x)]; rfl
        rw [num_cg (RGS_cn hq)] at e2
        have hfr : Fr [50, 52, 53] M M3 := ((hf.tr (hfu.mo (by simp))).tr (f2.mo (by simp))).tr (f3.mo (by simp))
        have l1 := num_lt7 hq h7
        have l2 := num_lt7 hsR h7
        have hop := MD_opens_wp (k := 50) (v := r2) (M := M3) (n := n) (Or.inl rfl) w1 h7 hut3.2.1
        rw [e3', opn_num hsR h7] at hop
        have hop2 : wp (MD_opens r2 50 M3) (fun r => Fr [50] M3 r.2 ∧ AR r.2 50 n (spl S n ma kd q)) := by
          rw [e3']
          refine wp_mono hop (fun rr hrr => ⟨hrr.1, ?_⟩)
          rcases hrr.2 with ⟨q', c1, -, c3⟩ | ⟨c1, -⟩
          · cases c1; exact dgA hsR h7 c3
          · cases c1
        rw [jp_e, e2, e3']
        rw [e3'] at hop2
        simp only [nI_eq l2.2 l1.2]
        have hge := (sg_fin (S := S) (ma := ma) (kd := kd) hq)
        have htp := hsR.top7
        by_cases e : num (spl S n ma kd q) n = num q n
        · rw [if_pos e]
          refine wp_bnd2 hop2 (fun r4 M4 hM4 => ?_)
          obtain ⟨f4, h4⟩ := hM4
          have heq := num_inj (fun x hx => by have := hsR.ltn x hx; omega) (fun x hx => by have := hq.ltn x hx; omega) e
          have : fin = q := by rw [← hc, cst_fix (top_cg heq)]
          refine ih 0 _ (by omega) ⟨hfr.tr (f4.mo (by simp)), Or.inl ⟨rfl, ?_⟩⟩
          rw [this]
          exact h4.cg heq
        · rw [if_neg e]
          refine wp_bnd2 hop2 (fun r4 M4 hM4 => ?_)
          obtain ⟨f4, h4⟩ := hM4
          have hne : top q n ≠ top (spl S n ma kd q) n := fun z => e (num_cg (fun x hx => (hge.2 z x hx).symm))
          obtain ⟨d', rfl⟩ : ∃ d', d = d' + 1 := ⟨d - 1, by omega⟩
          rw [cstF_s, if_neg (fun z => hne z.symm)] at hc
          exact ih d' _ (by omega) ⟨hfr.tr (f4.mo (by simp)), Or.inr ⟨rfl, _, hsR, h4, hc, by omega⟩⟩
  · exact hfin.symm
  · have := top_pos (p := p) (show 0 < n by omega)
    omega
/-! 11 judge, 12 coarsest -/
theorem em_ok {σ : Sg} {a : Int32} {M M' : Mem} (h : RM M' σ) (hf : ∀ k, k < 33 → M' k = M k) : EM (σ, a) M (a, M') := by
  induction (0 : Nat) with
  | zero => exact ⟨rfl, h, hf⟩
  | succ _ ih => exact ih
theorem ec_ok {σ : Sg} {a : Int32} {M M' : Mem} (h : RC M' σ) (hf : ∀ k, 33 ≤ k → M' k = M k) : EC (σ, a) M (a, M') := by
  induction (0 : Nat) with
  | zero => exact ⟨rfl, h, hf⟩
  | succ _ ih => exact ih
theorem TWF.of {σ : Sg} (hw : WF σ) {y : Nat} : TWF σ.1 σ.2.2.2.2.2.1 (tab σ.2.2.2.2.2.2.1 y σ.2.2.1) := by
  obtain ⟨n, y0, nt, tb, nc, ma, tf, tp, nf, rf⟩ := σ
  obtain ⟨w1, w2, w3, w4, w5, w6, w7, w8, w9, w10⟩ := hw
  exact ⟨w1, w2, w7, fun k x z hk hx hz hc => tab_0 y nt w8 w2 k x z hx hz hc⟩
theorem TW.of {σ : Sg} {M : Mem} {S : Nat → Nat} (h : RC M σ) (ht : Tbl M 3 S) : TW M σ.1 σ.2.2.2.2.2.1 S := ⟨ht, h.1, h.2.2.2.2.2.1⟩
theorem TM.of {σ : Sg} {M : Mem} {S : Nat → Nat} (h : RM M σ) (ht : Tbl M 49 S) : TM M σ.1 σ.2.2.2.2.2.1 S := ⟨ht, h.1, h.2.2.2.2.2.1⟩
def R_judge (σ : Sg) (v kd : Int32) : Ans := match opn σ.1 v with
  | some p => if inrB kd 5 = true then (σ, jud σ.1 (bdB (sS σ) σ.1 σ.2.2.2.2.2.1 p kd.toInt.toNat)) else no σ 1
  | none => no σ 1
theorem SCRj : ∀ a ∈ [15], a ∈ SCR := by decide
theorem SP_judge_wp {σ : Sg} {M : Mem} (v kd : Int32) (hw : WF σ) (h : RC M σ) : wp (SP_judge v kd M) (EC (R_judge σ v kd) M) := by
  have hn : M 1 2 = nI σ.1 := h.1
  unfold SP_judge R_judge
  rw [hn]
  refine wp_bnd2 (Pa_readNumber_wp isP_26 hw.1 hw.2.1) (fun r M1 hr => ?_)
  obtain ⟨f1, hr⟩ := hr
  have g1 : Fr SCR M M1 := f1.mo SCR26
  have h1 := h.fr g1
  rw [jp_e]
  rcases hr with ⟨p, e, rfl, hp⟩ | ⟨e, rfl⟩
  · rw [e, if_neg one_ne0, SP_isSameness_eq, bind_s]
    simp only [cI_0]
    by_cases hk : inrB kd 5 = true
    · rw [if_neg (not_not_intro hk), if_pos hk, h1.2.1]
      obtain ⟨k, hk5, rfl⟩ := inr_of (inrB_iff.mp hk) (by omega)
      rw [nat3 (by omega)]
      refine wp_bind (SP_look hw.2.2.1 hw h1) (fun M2 hM2 => ?_)
      obtain ⟨f2, t2⟩ := hM2
      have g2 := f2.mo SCR3
      have h2 := h1.fr g2
      refine wp_bnd2 (Sa_firstUnlike_wp (TWF.of hw) (TW.of h2 t2) (hp.2.2.fr (f2 27 (by decide))) (opn_some e).1 hk5) (fun r4 M4 hM4 => ?_)
      obtain ⟨f4, e4⟩ := hM4
      have g4 := f4.mo SCRj
      rw [show r4 = _ from e4]
      exact wp_some (ec_ok (h2.fr g4) ((g1.tr g2).tr g4).hi)
    · rw [if_pos hk, if_neg hk]
      exact SP_no1 h1 g1.hi
  · rw [e, if_pos rfl]
    exact SP_no1 h1 g1.hi
theorem MD_judge_wp {σ : Sg} {M : Mem} (v kd : Int32) (hw : WF σ) (h : RM M σ) : wp (MD_judge v kd M) (EM (R_judge σ v kd) M) := by
  have hn : M 33 8 = nI σ.1 := h.1
  have h7 : σ.1 ≤ 7 := hw.2.1
  unfold MD_judge R_judge
  refine wp_bnd2 (MD_opens_wp (Or.inl rfl) hw.1 hw.2.1 hn) (fun r M1 hr => ?_)
  obtain ⟨f1, hr⟩ := hr
  have g1 : Fr SMR M M1 := f1.mo SMR50
  have h1 := h.fr g1
  rw [jp_e]
  rcases hr with ⟨p, e, e2, hp⟩ | ⟨e, e2⟩
  · have ht := (opn_some e).1.top7
    simp only at e2
    rw [e, e2, if_neg (nI_pos (by omega)), MD_isSameness_eq, bind_s]
    simp only [cI_0]
    by_cases hk : inrB kd 5 = true
    · rw [if_neg (not_not_intro hk), if_pos hk, h1.2.1]
      obtain ⟨k, hk5, rfl⟩ := inr_of (inrB_iff.mp hk) (by omega)
      rw [nat3 (by omega)]
      refine wp_bind (MD_look hw.2.2.1 hw h1) (fun M2 hM2 => ?_)
      obtain ⟨f2, t2⟩ := hM2
      have g2 := f2.mo SMR49
      have h2 := h1.fr g2
      rw [MD_judged_eq (TWF.of hw) (TM.of h2 t2) (hp.fr (f2 50 (by decide))) (opn_some e).1 hk5, bind_s]
      exact wp_some (em_ok h2 (g1.tr g2).lo)
    · rw [if_pos hk, if_neg hk]
      exact MD_no1 h1 g1.lo
  · simp only at e2
    rw [e, e2, if_pos m1_neg]
    exact MD_no1 h1 g1.lo
def cst (σ : Sg) (y kd : Nat) (p : Nat → Nat) : Nat → Nat := cstF (spl (tab σ.2.2.2.2.2.2.1 y σ.2.2.1) σ.1 σ.2.2.2.2.2.1 kd) σ.1 7 p
def R_coarsest (σ : Sg) (v kd : Int32) : Ans := match opn σ.1 v with
  | some p => if inrB kd 5 = true then (σ, nI (num (cst σ σ.2.1 kd.toInt.toNat p) σ.1)) else no σ 1
  | none => no σ 1
theorem SCRc : ∀ a ∈ [15, 26, 26 + 1, 28, 28 + 1], a ∈ SCR := by decide
theorem SMRc : ∀ a ∈ [50, 52, 53], a ∈ SMR := by decide
theorem SP_coarsest_wp {σ : Sg} {M : Mem} (v kd : Int32) (hw : WF σ) (h : RC M σ) : wp (SP_coarsest v kd M) (EC (R_coarsest σ v kd) M) := by
  have hn : M 1 2 = nI σ.1 := h.1
  unfold SP_coarsest R_coarsest
  rw [hn]
  refine wp_bnd2 (Pa_readNumber_wp isP_26 hw.1 hw.2.1) (fun r M1 hr => ?_)
  obtain ⟨f1, hr⟩ := hr
  have g1 : Fr SCR M M1 := f1.mo SCR26
  have h1 := h.fr g1
  rw [jp_e]
  rcases hr with ⟨p, e, rfl, hp⟩ | ⟨e, rfl⟩
  · rw [e, if_neg one_ne0, SP_isSameness_eq, bind_s]
    simp only [cI_0]
    by_cases hk : inrB kd 5 = true
    · rw [if_neg (not_not_intro hk), if_pos hk, h1.2.1]
      obtain ⟨k, hk5, rfl⟩ := inr_of (inrB_iff.mp hk) (by omega)
      rw [nat3 (by omega)]
      refine wp_bind (SP_look hw.2.2.1 hw h1) (fun M2 hM2 => ?_)
      obtain ⟨f2, t2⟩ := hM2
      have g2 := f2.mo SCR3
      have h2 := h1.fr g2
      refine wp_bind (Sa_refine_wp isP_26 isP_28 (by decide) (TWF.of hw) (TW.of h2 t2) (hp.fr (f2 26 (by decide)) (f2 27 (by decide))) (opn_some e).1 hk5) (fun M4 hM4 => ?_)
      obtain ⟨f4, e4⟩ := hM4
      have g4 := f4.mo SCRc
      rw [Pa_number_eq isP_26 hw.2.1 e4, bind_s]
      exact wp_some ⟨rfl, h2.fr g4, ((g1.tr g2).tr g4).hi⟩
    · rw [if_pos hk, if_neg hk]
      exact SP_no1 h1 g1.hi
  · rw [e, if_pos rfl]
    exact SP_no1 h1 g1.hi
theorem MD_coarsest_wp {σ : Sg} {M : Mem} (v kd : Int32) (hw : WF σ) (h : RM M σ) : wp (MD_coarsest v kd M) (EM (R_coarsest σ v kd) M) := by
  have hn : M 33 8 = nI σ.1 := h.1
  have h7 : σ.1 ≤ 7 := hw.2.1
  unfold MD_coarsest R_coarsest
  refine wp_bnd2 (MD_opens_wp (Or.inl rfl) hw.1 hw.2.1 hn) (fun r M1 hr => ?_)
  obtain ⟨f1, hr⟩ := hr
  have g1 : Fr SMR M M1 := f1.mo SMR50
  have h1 := h.fr g1
  rw [jp_e]
  rcases hr with ⟨p, e, e2, hp⟩ | ⟨e, e2⟩
  · have ht := (opn_some e).1.top7
    simp only at e2
    rw [e, e2, if_neg (nI_pos (by omega)), MD_isSameness_eq, bind_s]
    simp only [cI_0]
    by_cases hk : inrB kd 5 = true
    · rw [if_neg (not_not_intro hk), if_pos hk, h1.2.1]
      obtain ⟨k, hk5, rfl⟩ := inr_of (inrB_iff.mp hk) (by omega)
      rw [nat3 (by omega)]
      refine wp_bind (MD_look hw.2.2.1 hw h1) (fun M2 hM2 => ?_)
      obtain ⟨f2, t2⟩ := hM2
      have g2 := f2.mo SMR49
      have h2 := h1.fr g2
      refine wp_bnd2 (MD_splits_wp (TWF.of hw) (TM.of h2 t2) (hp.fr (f2 50 (by decide))) (opn_some e).1 hk5) (fun r4 M4 hM4 => ?_)
      obtain ⟨f4, e4⟩ := hM4
      have g4 := f4.mo SMRc
      exact wp_some ⟨e4, h2.fr g4, ((g1.tr g2).tr g4).lo⟩
    · rw [if_pos hk, if_neg hk]
      exact MD_no1 h1 g1.lo
  · simp only at e2
    rw [e, e2, if_pos m1_neg]
    exact MD_no1 h1 g1.lo
