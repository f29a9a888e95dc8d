/-! by hand: all partings one behind the other; next, all -/
def rch (n : Nat) : Nat → (Nat → Nat) → Prop
  | 0, p => nxP p n = 0
  | d + 1, p => nxP p n = 0 ∨ rch n d (nxf n p)
def rchC (n : Nat) : Nat → Nat → Bool
  | 0, m => nxP (dg n m) n == 0
  | d + 1, m => nxP (dg n m) n == 0 || rchC n d (num (nxf n (dg n m)) n)
theorem rchC_all : ∀ n, n < 8 → rchC n 876 0 = true := by decide +kernel
theorem rch_of {n : Nat} (h7 : n ≤ 7) : ∀ {d m : Nat} {p : Nat → Nat}, RGS n p → (∀ x, x < n → dg n m x = p x) → rchC n d m = true → rch n d p
  | 0, m, p, hr, he, h => by
    have h' : (nxP (dg n m) n == 0) = true := h
    rw [beq_iff_eq, nxP_cg he] at h'
    exact h'
  | d + 1, m, p, hr, he, h => by
    have h' : (nxP (dg n m) n == 0 || rchC n d (num (nxf n (dg n m)) n)) = true := h
    rw [Bool.or_eq_true, beq_iff_eq, nxP_cg he] at h'
    by_cases h0 : nxP p n = 0
    · exact Or.inl h0
    rcases h' with z | z
    · exact Or.inl z
    have hR := nxf_RGS hr (by omega)
    refine Or.inr (rch_of h7 hR ?_ z)
    rw [num_cg (nxf_cg he)]
    exact dg_num (fun x hx => by have := hR.ltn x hx; omega)
theorem RGS_0 (n : Nat) : RGS n (fun _ => 0) := fun _ _ => Nat.zero_le _
theorem rch_0 {n : Nat} (h7 : n ≤ 7) : rch n 876 (fun _ => 0) := rch_of h7 (RGS_0 n) (fun x _ => by unfold dg; simp) (rchC_all n (by omega))
theorem MD_firstParting_wp {n : Nat} {M : Mem} (h7 : n ≤ 7) (hn : M 33 8 = nI n) : wp (MD_firstParting M) (fun M' => Fr [50] M M' ∧ AR M' 50 n (fun _ => 0)) := by
  unfold MD_firstParting
  refine LOOP_up (fun x (t : Mem) => (nI x, t)) n (by omega) (fun x t => Fr [50] M t ∧ AR t 50 x (fun _ => 0)) (fun o => wp o _) ?_ ?_ 0 M (by omega) ⟨Fr.rf, fun j hj => by omega⟩
  · rintro x t ag hx ⟨hf, a⟩ ih
    show wp (MD_firstParting_L2 _ ag (nI x) t) _
    unfold MD_firstParting_L2
    rw [hf 33 (by decide), hn, if_neg (by rw [nI_leI (by omega) (by omega)]; omega), if_pos ((inb_nI (by omega)).mpr (by omega)), nm_e', wr_nI (by omega), show (1 : Int32) = nI 1 from rfl, nI_add]
    refine ih _ ⟨hf.tr (Fr.st (by simp)), fun j hj => ?_⟩
    rw [st2_s]
    by_cases e : j = x
    · subst e; rw [upd_s]; rfl
    · rw [upd_n e]; exact a j (by omega)
  · rintro t ag ⟨hf, a⟩
    show wp (MD_firstParting_L2 _ ag (nI n) t) _
    unfold MD_firstParting_L2
    rw [hf 33 (by decide), hn, if_pos (by rw [nI_leI (by omega) (by omega)]; omega)]
    exact wp_some ⟨hf, a⟩
theorem MD_parts_eq {n : Nat} {p : Nat → Nat} {M : Mem} (h7 : n ≤ 7) (hn : M 33 8 = nI n) (h : AR M 50 n p) (hr : RGS n p) : MD_parts M = some (nI (top p n)) := by
  unfold MD_parts
  refine LOOP_fun (fun y => (nI (top p y), nI y)) n (by omega) (fun _ => some (nI (top p n))) ?_ ?_ 0 (Nat.zero_le _)
  · intro y ag hy ih
    have h1 := hr.le y (by omega)
    have h2 := hr.lt (x := y) (by omega)
    show MD_parts_L4 M _ ag (nI (top p y)) (nI y) = _
    unfold MD_parts_L4
    rw [hn, if_neg (by rw [nI_leI (by omega) (by omega)]; omega)]
    simp (disch := omega) only [inb_nI, show y < 7 by omega, if_true, rd_nI, h y (by omega), i32lit, nI_add, nI_leI, nm_e']
    rw [← ih, top_s]
    split
    · congr 3; omega
    · congr 3; omega
  · intro ag
    show MD_parts_L4 M _ ag _ (nI n) = _
    unfold MD_parts_L4
    rw [hn, if_pos (by rw [nI_leI (by omega) (by omega)]; omega)]
set_option maxHeartbeats 1000000 in
theorem MD_nextParting_wp {n : Nat} {p : Nat → Nat} {M : Mem} (h1 : 1 ≤ n) (h7 : n ≤ 7) (hn : M 33 8 = nI n) (h : AR M 50 n p) (hr : RGS n p) :
    wp (MD_nextParting M) (fun r => Fr [50] M r.2 ∧ r.1 = cI (0 < nxP p n) ∧ AR r.2 50 n (if 0 < nxP p n then nxf n p else p)) := by
  unfold MD_nextParting
  rw [nm_e', hn]
  obtain ⟨n', rfl⟩ : ∃ n', n = n' + 1 := ⟨n - 1, by omega⟩
  rw [nI_pred]
  refine LOOP_down (fun x (_ : Unit) => nI x) (fun x _ => x ≤ n' ∧ nxP p (n' + 1) = nxP p (x + 1)) (fun o => wp o _) ?_ ?_ n' () (by omega) ⟨Nat.le_refl _, rfl⟩
  · rintro x - ag ⟨hx, hj⟩ ih
    show wp (MD_nextParting_L7 M _ ag (nI (x + 1))) _
    unfold MD_nextParting_L7
    have hp := top_pos (p := p) (show 0 < x + 1 by omega)
    have ht := hr.le (x + 1) (by omega)
    have hl := hr.lt (x := x + 1) (by omega)
    rw [if_neg (by rw [nI_pos_iff (by omega)]; omega)]
    refine LOOP_up (fun y (a : Int32) => (a, nI y)) (x + 1) (by omega) (fun y a => a = nI (top p y)) (fun o => wp o _) ?_ ?_ 0 (nI 0) (by omega) rfl
    · rintro y a ag' hy rfl ih'
      have h1 := hr.le y (by omega)
      have h2 := hr.lt (x := y) (by omega)
      show wp (MD_nextParting_L15 (nI (x + 1)) M _ ag' (nI (top p y)) (nI y)) _
      unfold MD_nextParting_L15
      rw [if_neg (by rw [nI_leI (by omega) (by omega)]; omega), if_pos ((inb_nI (by omega)).mpr (by omega)), nm_e', if_pos ((inb_nI (by omega)).mpr (by omega)), rd_nI (by omega), h y (by omega), show (1 : Int32) = nI 1 from rfl, nI_add, nI_add]
      simp (disch := omega) only [nI_leI]
      refine wp_ite (fun hc => ?_) (fun hc => ?_)
      · refine ih' _ ?_
        rw [top_s]; congr 1; omega
      · refine ih' _ ?_
        rw [top_s]; congr 1; omega
    · rintro a ag' rfl
      show wp (MD_nextParting_L15 (nI (x + 1)) M _ ag' (nI (top p (x + 1))) (nI (x + 1))) _
      unfold MD_nextParting_L15
      rw [if_pos (by rw [nI_leI (by omega) (by omega)]; omega)]
      dsimp only
      have i7 : inb (nI (x + 1)) 7 := (inb_nI (by omega)).mpr (by omega)
      rw [if_pos i7, if_pos i7, if_pos i7, rd_nI (by omega), h (x + 1) (by omega), nm_e', nm_e', show (1 : Int32) = nI 1 from rfl, nI_add, nI_add, wr_nI (by omega)]
      simp (disch := omega) only [nI_ltI]
      by_cases hc : p (x + 1) < top p (x + 1)
      · rw [if_pos hc]
        have hnx : nxP p (n' + 1) = x + 1 := by rw [hj, nxP_s, if_pos ⟨by omega, hc⟩]
        refine LOOP_up (fun z (t : Mem) => (nI z, t)) (n' + 1) (by omega) (fun z t => Fr [50] M t ∧ x + 2 ≤ z ∧ ∀ y, y < n' + 1 → t 50 y = nI (if y < z then nxf (n' + 1) p y else p y)) (fun o => wp o _) ?_ ?_ (x + 2) _ (by omega) ⟨Fr.st (by simp), Nat.le_refl _, fun y hy => ?_⟩
        · rintro z t ag' hz ⟨hf, g2, g3⟩ ih'
          show wp (MD_nextParting_L78 _ ag' (nI z) t) _
          unfold MD_nextParting_L78
          rw [hf 33 (by decide), hn, if_neg (by rw [nI_leI (by omega) (by omega)]; omega), if_pos ((inb_nI (by omega)).mpr (by omega)), nm_e', wr_nI (by omega), show (1 : Int32) = nI 1 from rfl, nI_add]
          refine ih' _ ⟨hf.tr (Fr.st (by simp)), by omega, fun y hy => ?_⟩
          rw [st2_s]
          by_cases e : y = z
          · subst e
            rw [upd_s, if_pos (by omega)]
            unfold nxf
            rw [if_neg (by omega), if_neg (by omega)]; rfl
          · rw [upd_n e, g3 y hy]
            by_cases e' : y < z
            · rw [if_pos e', if_pos (by omega)]
            · rw [if_neg e', if_neg (by omega)]
        · rintro t ag' ⟨hf, g2, g3⟩
          show wp (MD_nextParting_L78 _ ag' (nI (n' + 1)) t) _
          unfold MD_nextParting_L78
          rw [hf 33 (by decide), hn, if_pos (by rw [nI_leI (by omega) (by omega)]; omega)]
          refine wp_some ⟨hf, (cI_t (by omega)).symm, ?_⟩
          rw [if_pos (by omega)]
          intro y hy
          show t 50 y = _
          rw [g3 y hy, if_pos hy]
        · rw [st2_s]
          by_cases e : y = x + 1
          · subst e
            rw [upd_s, if_pos (by omega)]
            unfold nxf
            rw [if_neg (by omega), if_pos hnx.symm]
          · rw [upd_n e, h y hy]
            by_cases e' : y < x + 2
            · rw [if_pos e']
              unfold nxf
              rw [if_pos (by omega)]
            · rw [if_neg e']
      · rw [if_neg hc, show -nI 1 = (-1 : Int32) from rfl, pk_m1]
        refine ih () ⟨by omega, ?_⟩
        rw [hj, nxP_s, if_neg (fun z => hc z.2)]
  · rintro - ag ⟨hx, hj⟩
    show wp (MD_nextParting_L7 M _ ag (nI 0)) _
    unfold MD_nextParting_L7
    rw [if_pos (by decide)]
    have h0 : nxP p (n' + 1) = 0 := by rw [hj]; rfl
    refine wp_some ⟨Fr.rf, (cI_f (by omega)).symm, ?_⟩
    rw [if_neg (by omega)]
    exact h
/-! 17 next, 18 all -/
def srch (n : Nat) (ok : (Nat → Nat) → Bool) : Nat → (Nat → Nat) → Int32
  | 0, p => if ok p then nI (num p n) else -9
  | d + 1, p => if ok p then nI (num p n) else if 0 < nxP p n then srch n ok d (nxf n p) else -9
def cntP (n : Nat) (ok : (Nat → Nat) → Bool) : Nat → (Nat → Nat) → Nat
  | 0, p => if ok p then 1 else 0
  | d + 1, p => (if ok p then 1 else 0) + if 0 < nxP p n then cntP n ok d (nxf n p) else 0
theorem srch_s (n : Nat) (ok : (Nat → Nat) → Bool) (d : Nat) (p : Nat → Nat) : srch n ok (d + 1) p = if ok p then nI (num p n) else if 0 < nxP p n then srch n ok d (nxf n p) else -9 := rfl
theorem srch_end {n : Nat} {ok : (Nat → Nat) → Bool} {p : Nat → Nat} (h : nxP p n = 0) : ∀ d, srch n ok d p = if ok p then nI (num p n) else -9
  | 0 => rfl
  | d + 1 => by rw [srch_s, if_neg (show ¬ 0 < nxP p n by omega)]
theorem cntP_s (n : Nat) (ok : (Nat → Nat) → Bool) (d : Nat) (p : Nat → Nat) : cntP n ok (d + 1) p = (if ok p then 1 else 0) + if 0 < nxP p n then cntP n ok d (nxf n p) else 0 := rfl
theorem cntP_end {n : Nat} {ok : (Nat → Nat) → Bool} {p : Nat → Nat} (h : nxP p n = 0) : ∀ d, cntP n ok d p = if ok p then 1 else 0
  | 0 => rfl
  | d + 1 => by rw [cntP_s, if_neg (show ¬ 0 < nxP p n by omega), Nat.add_zero]
theorem rch_end {n d : Nat} {p : Nat → Nat} (h : rch n d p) (hp : 0 < nxP p n) : ∃ d', d = d' + 1 ∧ rch n d' (nxf n p) := by
  cases d with
  | zero => have : nxP p n = 0 := h
            omega
  | succ d =>
    refine ⟨d, rfl, ?_⟩
    rcases h with z | z
    · omega
    · exact z
def judO (σ : Sg) (kd : Nat) (p : Nat → Nat) : Bool := jud σ.1 (bdB (sS σ) σ.1 σ.2.2.2.2.2.1 p kd) == -9
def okN (σ : Sg) (kd : Nat) (w : Int32) (p : Nat → Nat) : Bool := !decide (nI (num p σ.1) ≤ w) && judO σ kd p
def R_next (σ : Sg) (kd w : Int32) : Ans := if inrB kd 5 = true then if -1 ≤ w then (σ, srch σ.1 (okN σ kd.toInt.toNat w) 876 (fun _ => 0)) else no σ 4 else no σ 1
def R_all (σ : Sg) (kd : Int32) : Ans := if inrB kd 5 = true then (σ, nI (cntP σ.1 (judO σ kd.toInt.toNat) 876 (fun _ => 0))) else no σ 1
theorem SCRn : ∀ a ∈ [15, 26, 27], a ∈ SCR := by decide
theorem SMRn : ∀ a ∈ [50, 53], a ∈ SMR := by decide
theorem b_ite {β : Type} {b : Bool} {x y : β} (h : b = false) : (if b = true then x else y) = y := if_neg (by rw [h]; decide)
set_option maxHeartbeats 1000000 in
theorem SP_next_wp {σ : Sg} {M : Mem} (kd w : Int32) (hw : WF σ) (h : RC M σ) : wp (SP_next kd w M) (EC (R_next σ kd w) M) := by
  have h7 : σ.1 ≤ 7 := hw.2.1
  have h1n : 1 ≤ σ.1 := hw.1
  unfold SP_next R_next
  rw [SP_isSameness_eq, bind_s]
  simp only [cI_0]
  by_cases hk : inrB kd 5 = true
  · rw [if_neg (not_not_intro hk), if_pos hk]
    by_cases hw1 : -1 ≤ w
    · rw [if_pos hw1, if_pos hw1, h.2.1]
      obtain ⟨k, hk5, rfl⟩ := inr_of (inrB_iff.mp hk) (by omega)
      rw [nat3 (by omega)]
      refine wp_bind (SP_look hw.2.2.1 hw h) (fun M2 hM2 => ?_)
      obtain ⟨f2, t2⟩ := hM2
      have g2 := f2.mo SCR3
      have h2 := h.fr g2
      have hn2 : M2 1 2 = nI σ.1 := h2.1
      rw [hn2]
      refine wp_bind (Pa_allInOne_wp isP_26 h1n h7) (fun M3 hM3 => ?_)
      obtain ⟨f3, p3⟩ := hM3
      have tw2 := TW.of h2 t2
      generalize hR : srch σ.1 (okN σ k w) 876 (fun _ => 0) = R
      refine LOOP_up2 (fun i (v : Int32) (t : Mem) => (v, nI i, t)) 877 (by omega) (fun i v t => Fr [15, 26, 27] M2 t ∧ ((v = 0 ∧ R = -9) ∨ (v = 1 ∧ ∃ p, RGS σ.1 p ∧ PT t 26 σ.1 p ∧ rch σ.1 (876 - i) p ∧ i ≤ 876 ∧ srch σ.1 (okN σ k w) (876 - i) p = R))) (fun o => wp o _) ?_ ?_ 0 1 M3 (by omega) ⟨f3.mo (by simp), Or.inr ⟨rfl, _, RGS_0 _, p3, rch_0 h7, by omega, hR⟩⟩
      · rintro i v t ag hi ⟨hf, hv⟩ ih
        show wp (SP_next_L52 (nI k) w _ ag v (nI i) t) _
        unfold SP_next_L52
        rw [if_neg (by rw [show (877 : Int32) = nI 877 from rfl, nI_leI (by omega) (by omega)]; omega)]
        rcases hv with ⟨rfl, hR9⟩ | ⟨rfl, p, hr, hp, hd, hi6, hs⟩
        · rw [if_pos rfl, hR9]
          exact wp_some (ec_ok (h2.fr (hf.mo SCRn)) (g2.tr (hf.mo SCRn)).hi)
        · rw [if_neg one_ne0, Pa_number_eq isP_26 h7 hp, bind_s, jp_e]
          have hgo : ∀ t', Fr [15] t t' → okN σ k w p = false → wp (bnd2 (Pa_forward t') fun r_4 M6 => ag (r_4, nI i + 1, M6)) (EC (σ, R) M) := fun t' ft hno => by
            have hp' : PT t' 26 σ.1 p := hp.fr (ft 26 (by decide)) (ft 27 (by decide))
            refine wp_bnd2 (Pa_forward_wp h1n h7 hp' hr) (fun r4 M6 h6 => ?_)
            obtain ⟨f6, e6, p6⟩ := h6
            dsimp only at e6 p6
            have ff : Fr [15, 26, 27] M2 M6 := (hf.tr (ft.mo (by simp))).tr (f6.mo (by simp))
            rw [show (1 : Int32) = nI 1 from rfl, nI_add]
            refine ih _ _ ⟨ff, ?_⟩
            by_cases hx : 0 < nxP p σ.1
            · obtain ⟨d', hd', hc⟩ := rch_end hd hx
              rw [if_pos hx] at p6
              refine Or.inr ⟨by rw [e6]; exact cI_t hx, nxf σ.1 p, nxf_RGS hr hx, p6, ?_, by omega, ?_⟩
              · rw [show 876 - (i + 1) = d' by omega]; exact hc
              · rw [show 876 - (i + 1) = d' by omega, ← hs, hd', srch_s, b_ite hno, if_pos hx]
            · refine Or.inl ⟨by rw [e6]; exact cI_f hx, ?_⟩
              rw [← hs, srch_end (by omega), b_ite hno]
          by_cases hle : nI (num p σ.1) ≤ w
          · rw [if_pos hle]
            exact hgo t Fr.rf (by unfold okN; rw [decide_eq_true hle]; rfl)
          · rw [if_neg hle]
            have hwt := (tw2.fr hf (by decide) (by decide) (by decide))
            refine wp_bnd2 (Sa_firstUnlike_wp (TWF.of hw) hwt hp.2.2 hr hk5) (fun r5 M7 h7' => ?_)
            obtain ⟨f7, e7⟩ := h7'
            rw [show r5 = _ from e7]
            by_cases hj : jud σ.1 (bdB (sS σ) σ.1 σ.2.2.2.2.2.1 p k) = -9
            · rw [if_pos hj]
              have hok : okN σ k w p = true := by unfold okN judO; rw [decide_eq_false hle, hj]; rfl
              have : R = nI (num p σ.1) := by
                rw [← hs]
                cases 876 - i with
                | zero => exact if_pos hok
                | succ d => rw [srch_s, if_pos hok]
              rw [this]
              have f27 : Fr [15, 26, 27] M2 M7 := hf.tr (f7.mo (by simp))
              exact wp_some (ec_ok (h2.fr (f27.mo SCRn)) (g2.tr (f27.mo SCRn)).hi)
            · rw [if_neg hj]
              exact hgo M7 f7 (by unfold okN judO; rw [beq_eq_false_iff_ne.mpr hj, Bool.and_false])
      · rintro v t ag ⟨hf, hv⟩
        show wp (SP_next_L52 (nI k) w _ ag v (nI 877) t) _
        unfold SP_next_L52
        rw [if_pos (by decide)]
        rcases hv with ⟨rfl, hR9⟩ | ⟨rfl, p, hr, hp, hd, hi6, hs⟩
        · rw [hR9]
          exact wp_some (ec_ok (h2.fr (hf.mo SCRn)) (g2.tr (hf.mo SCRn)).hi)
        · omega
    · rw [if_neg hw1, if_neg hw1]
      exact SP_no4 h rfl_hi
  · rw [if_pos hk, if_neg hk]
    exact SP_no1 h rfl_hi
set_option maxHeartbeats 1000000 in
theorem MD_next_wp {σ : Sg} {M : Mem} (kd w : Int32) (hw : WF σ) (h : RM M σ) : wp (MD_next kd w M) (EM (R_next σ kd w) M) := by
  have h7 : σ.1 ≤ 7 := hw.2.1
  have h1n : 1 ≤ σ.1 := hw.1
  unfold MD_next R_next
  rw [MD_isSameness_eq, bind_s]
  simp only [cI_0]
  by_cases hk : inrB kd 5 = true
  · rw [if_neg (not_not_intro hk), if_pos hk]
    by_cases hw1 : -1 ≤ w
    · rw [if_pos hw1, if_pos hw1, h.2.1]
      obtain ⟨k, hk5, rfl⟩ := inr_of (inrB_iff.mp hk) (by omega)
      rw [nat3 (by omega)]
      refine wp_bind (MD_look hw.2.2.1 hw h) (fun M2 hM2 => ?_)
      obtain ⟨f2, t2⟩ := hM2
      have g2 := f2.mo SMR49
      have h2 := h.fr g2
      have hn2 : M2 33 8 = nI σ.1 := h2.1
      refine wp_bind (MD_firstParting_wp h7 hn2) (fun M3 hM3 => ?_)
      obtain ⟨f3, p3⟩ := hM3
      have tm2 := TM.of h2 t2
      generalize hR : srch σ.1 (okN σ k w) 876 (fun _ => 0) = R
      refine LOOP_inv (fun d (s : Int32 × Mem) => Fr [50, 53] M2 s.2 ∧ ((s.1 = 0 ∧ R = -9) ∨ (s.1 = 1 ∧ ∃ p d', d = d' + 1 ∧ RGS σ.1 p ∧ AR s.2 50 σ.1 p ∧ rch σ.1 d' p ∧ srch σ.1 (okN σ k w) d' p = R))) (fun o => wp o _) ?_ FU 877 (1, M3) (by unfold FU; omega) ⟨f3.mo (by simp), Or.inr ⟨rfl, _, 876, rfl, RGS_0 _, p3, rch_0 h7, hR⟩⟩
      rintro d ⟨v, t⟩ ag ⟨hf, hv⟩ ih
      show wp (MD_next_L39 (nI k) w _ ag v t) _
      unfold MD_next_L39
      dsimp only at hf hv
      rcases hv with ⟨rfl, hR9⟩ | ⟨rfl, p, d, rfl, hr, hp, hd, hs⟩
      · rw [if_pos rfl, hR9]
        exact wp_some (em_ok (h2.fr (hf.mo SMRn)) (g2.tr (hf.mo SMRn)).lo)
      · rw [if_neg one_ne0]
        have hmt := (tm2.fr hf (by decide) (by decide) (by decide))
        have hp100 : ∀ x, x < σ.1 → p x < 100 := fun x hx => by have := hr.ltn x hx; omega
        refine wp_bnd2 (MD_number_wp (k := 50) (by omega) (by omega) (by omega) rfl h7 hmt.2.1 hp hp100) (fun r3 M5 h5 => ?_)
        obtain ⟨f5, e5⟩ := h5
        rw [show r3 = _ from e5, num_cg (RGS_cn hr), jp_e]
        have hp5 : AR M5 50 σ.1 p := hp.fr (f5 50 (by decide))
        have hm5 := hmt.fr f5 (by decide) (by decide) (by decide)
        have f25 : Fr [50, 53] M2 M5 := hf.tr (f5.mo (by simp))
        have hgo : okN σ k w p = false → wp (bnd2 (MD_nextParting M5) fun r_4 M6 => ag (r_4, M6)) (EM (σ, R) M) := fun hno => by
          refine wp_bnd2 (MD_nextParting_wp h1n h7 hm5.2.1 hp5 hr) (fun r4 M6 h6 => ?_)
          obtain ⟨f6, e6, p6⟩ := h6
          dsimp only at e6 p6
          have ff : Fr [50, 53] M2 M6 := f25.tr (f6.mo (by simp))
          by_cases hx : 0 < nxP p σ.1
          · obtain ⟨d', hd', hc⟩ := rch_end hd hx
            rw [if_pos hx] at p6
            refine ih d _ (by omega) ⟨ff, Or.inr ⟨by rw [e6]; exact cI_t hx, nxf σ.1 p, d', hd', nxf_RGS hr hx, p6, hc, ?_⟩⟩
            rw [← hs, hd', srch_s, b_ite hno, if_pos hx]
          · refine ih d _ (by omega) ⟨ff, Or.inl ⟨by rw [e6]; exact cI_f hx, ?_⟩⟩
            rw [← hs, srch_end (by omega), b_ite hno]
        by_cases hle : nI (num p σ.1) ≤ w
        · rw [if_pos hle]
          exact hgo (by unfold okN; rw [decide_eq_true hle]; rfl)
        · rw [if_neg hle, MD_judged_eq (TWF.of hw) hm5 hp5 hr hk5, bind_s]
          by_cases hj : jud σ.1 (bdB (sS σ) σ.1 σ.2.2.2.2.2.1 p k) = -9
          · rw [if_pos hj]
            have hok : okN σ k w p = true := by unfold okN judO; rw [decide_eq_false hle, hj]; rfl
            have : R = nI (num p σ.1) := by
              rw [← hs]
              cases d with
              | zero => exact if_pos hok
              | succ d => rw [srch_s, if_pos hok]
            rw [this]
            exact wp_some (em_ok (h2.fr (f25.mo SMRn)) (g2.tr (f25.mo SMRn)).lo)
          · rw [if_neg hj]
            exact hgo (by unfold okN judO; rw [beq_eq_false_iff_ne.mpr hj, Bool.and_false])
    · rw [if_neg hw1, if_neg hw1]
      exact MD_no4 h rfl_lo
  · rw [if_pos hk, if_neg hk]
    exact MD_no1 h rfl_lo
set_option maxHeartbeats 1000000 in
theorem SP_all_wp {σ : Sg} {M : Mem} (kd : Int32) (hw : WF σ) (h : RC M σ) : wp (SP_all kd M) (EC (R_all σ kd) M) := by
  have h7 : σ.1 ≤ 7 := hw.2.1
  have h1n : 1 ≤ σ.1 := hw.1
  unfold SP_all R_all
  rw [SP_isSameness_eq, bind_s]
  simp only [cI_0]
  by_cases hk : inrB kd 5 = true
  · rw [if_neg (not_not_intro hk), if_pos hk, h.2.1]
    obtain ⟨k, hk5, rfl⟩ := inr_of (inrB_iff.mp hk) (by omega)
    rw [nat3 (by omega)]
    refine wp_bind (SP_look hw.2.2.1 hw h) (fun M2 hM2 => ?_)
    obtain ⟨f2, t2⟩ := hM2
    have g2 := f2.mo SCR3
    have h2 := h.fr g2
    have hn2 : M2 1 2 = nI σ.1 := h2.1
    rw [hn2]
    refine wp_bind (Pa_allInOne_wp isP_26 h1n h7) (fun M3 hM3 => ?_)
    obtain ⟨f3, p3⟩ := hM3
    have tw2 := TW.of h2 t2
    generalize hR : cntP σ.1 (judO σ k) 876 (fun _ => 0) = R
    refine LOOP_up3 (fun i (c v : Int32) (t : Mem) => (c, v, nI i, t)) 877 (by omega) (fun i c v t => Fr [15, 26, 27] M2 t ∧ ∃ c', c = nI c' ∧ ((v = 0 ∧ R = c') ∨ (v = 1 ∧ ∃ p, RGS σ.1 p ∧ PT t 26 σ.1 p ∧ rch σ.1 (876 - i) p ∧ i ≤ 876 ∧ c' + cntP σ.1 (judO σ k) (876 - i) p = R))) (fun o => wp o _) ?_ ?_ 0 (nI 0) 1 M3 (by omega) ⟨f3.mo (by simp), 0, rfl, Or.inr ⟨rfl, _, RGS_0 _, p3, rch_0 h7, by omega, by rw [Nat.zero_add]; exact hR⟩⟩
    · rintro i c v t ag hi ⟨hf, c', rfl, hv⟩ ih
      show wp (SP_all_L42 (nI k) _ ag (nI c') v (nI i) t) _
      unfold SP_all_L42
      rw [if_neg (by rw [show (877 : Int32) = nI 877 from rfl, nI_leI (by omega) (by omega)]; omega)]
      rcases hv with ⟨rfl, hR9⟩ | ⟨rfl, p, hr, hp, hd, hi6, hs⟩
      · rw [if_pos rfl, hR9]
        exact wp_some (ec_ok (h2.fr (hf.mo SCRn)) (g2.tr (hf.mo SCRn)).hi)
      · rw [if_neg one_ne0]
        have hwt := (tw2.fr hf (by decide) (by decide) (by decide))
        refine wp_bnd2 (Sa_firstUnlike_wp (TWF.of hw) hwt hp.2.2 hr hk5) (fun r5 t' h7' => ?_)
        obtain ⟨ft, e7⟩ := h7'
        rw [show r5 = _ from e7, jp_e]
        have hgo : ∀ c2, c2 = c' + (if judO σ k p = true then 1 else 0) → wp (bnd2 (Pa_forward t') fun r_4 M6 => ag (nI c2, r_4, nI i + 1, M6)) (EC (σ, nI R) M) := fun c2 hc2 => by
          have hp' : PT t' 26 σ.1 p := hp.fr (ft 26 (by decide)) (ft 27 (by decide))
          refine wp_bnd2 (Pa_forward_wp h1n h7 hp' hr) (fun r4 M6 h6 => ?_)
          obtain ⟨f6, e6, p6⟩ := h6
          dsimp only at e6 p6
          have ff : Fr [15, 26, 27] M2 M6 := (hf.tr (ft.mo (by simp))).tr (f6.mo (by simp))
          rw [show (1 : Int32) = nI 1 from rfl, nI_add]
          refine ih _ _ _ ⟨ff, c2, rfl, ?_⟩
          by_cases hx : 0 < nxP p σ.1
          · obtain ⟨d', hd', hc⟩ := rch_end hd hx
            rw [if_pos hx] at p6
            refine Or.inr ⟨by rw [e6]; exact cI_t hx, nxf σ.1 p, nxf_RGS hr hx, p6, ?_, by omega, ?_⟩
            · rw [show 876 - (i + 1) = d' by omega]; exact hc
            · rw [show 876 - (i + 1) = d' by omega, ← hs, hd', cntP_s, if_pos hx]; omega
          · refine Or.inl ⟨by rw [e6]; exact cI_f hx, ?_⟩
            rw [← hs, cntP_end (by omega)]; omega
        by_cases hj : jud σ.1 (bdB (sS σ) σ.1 σ.2.2.2.2.2.1 p k) = -9
        · rw [if_pos hj]
          dsimp only
          rw [show nI c' + 1 = nI (c' + 1) by rw [show (1 : Int32) = nI 1 from rfl, nI_add]]
          refine hgo _ ?_
          unfold judO; rw [beq_iff_eq.mpr hj]; rfl
        · rw [if_neg hj]
          refine hgo _ ?_
          unfold judO; rw [beq_eq_false_iff_ne.mpr hj]; rfl
    · rintro c v t ag ⟨hf, c', rfl, hv⟩
      show wp (SP_all_L42 (nI k) _ ag (nI c') v (nI 877) t) _
      unfold SP_all_L42
      rw [if_pos (by decide)]
      rcases hv with ⟨rfl, hR9⟩ | ⟨rfl, p, hr, hp, hd, hi6, hs⟩
      · rw [hR9]
        exact wp_some (ec_ok (h2.fr (hf.mo SCRn)) (g2.tr (hf.mo SCRn)).hi)
      · omega
  · rw [if_pos hk, if_neg hk]
    exact SP_no1 h rfl_hi
set_option maxHeartbeats 1000000 in
theorem MD_all_wp {σ : Sg} {M : Mem} (kd : Int32) (hw : WF σ) (h : RM M σ) : wp (MD_all kd M) (EM (R_all σ kd) M) := by
  have h7 : σ.1 ≤ 7 := hw.2.1
  have h1n : 1 ≤ σ.1 := hw.1
  unfold MD_all R_all
  rw [MD_isSameness_eq, bind_s]
  simp only [cI_0]
  by_cases hk : inrB kd 5 = true
  · rw [if_neg (not_not_intro hk), if_pos hk, h.2.1]
    obtain ⟨k, hk5, rfl⟩ := inr_of (inrB_iff.mp hk) (by omega)
    rw [nat3 (by omega)]
    refine wp_bind (MD_look hw.2.2.1 hw h) (fun M2 hM2 => ?_)
    obtain ⟨f2, t2⟩ := hM2
    have g2 := f2.mo SMR49
    have h2 := h.fr g2
    have hn2 : M2 33 8 = nI σ.1 := h2.1
    refine wp_bind (MD_firstParting_wp h7 hn2) (fun M3 hM3 => ?_)
    obtain ⟨f3, p3⟩ := hM3
    have tm2 := TM.of h2 t2
    generalize hR : cntP σ.1 (judO σ k) 876 (fun _ => 0) = R
    refine LOOP_inv (fun d (s : Int32 × Int32 × Mem) => Fr [50, 53] M2 s.2.2 ∧ ∃ c', s.1 = nI c' ∧ ((s.2.1 = 0 ∧ R = c') ∨ (s.2.1 = 1 ∧ ∃ p d', d = d' + 1 ∧ RGS σ.1 p ∧ AR s.2.2 50 σ.1 p ∧ rch σ.1 d' p ∧ c' + cntP σ.1 (judO σ k) d' p = R))) (fun o => wp o _) ?_ FU 877 (0, 1, M3) (by unfold FU; omega) ⟨f3.mo (by simp), 0, rfl, Or.inr ⟨rfl, _, 876, rfl, RGS_0 _, p3, rch_0 h7, by rw [Nat.zero_add]; exact hR⟩⟩
    rintro d ⟨c, v, t⟩ ag ⟨hf, c', hc', hv⟩ ih
    show wp (MD_all_L29 (nI k) _ ag c v t) _
    unfold MD_all_L29
    dsimp only at hf hv hc'
    subst hc'
    rcases hv with ⟨rfl, hR9⟩ | ⟨rfl, p, d, rfl, hr, hp, hd, hs⟩
    · rw [if_pos rfl, hR9]
      exact wp_some (em_ok (h2.fr (hf.mo SMRn)) (g2.tr (hf.mo SMRn)).lo)
    · rw [if_neg one_ne0]
      have hmt := (tm2.fr hf (by decide) (by decide) (by decide))
      have hp100 : ∀ x, x < σ.1 → p x < 100 := fun x hx => by have := hr.ltn x hx; omega
      rw [MD_judged_eq (TWF.of hw) hmt hp hr hk5, bind_s, jp_e]
      have hgo : ∀ c2, c2 = c' + (if judO σ k p = true then 1 else 0) → wp (bnd2 (MD_nextParting t) fun r_4 M6 => ag (nI c2, r_4, M6)) (EM (σ, nI R) M) := fun c2 hc2 => by
        refine wp_bnd2 (MD_nextParting_wp h1n h7 hmt.2.1 hp hr) (fun r4 M6 h6 => ?_)
        obtain ⟨f6, e6, p6⟩ := h6
        dsimp only at e6 p6
        have ff : Fr [50, 53] M2 M6 := hf.tr (f6.mo (by simp))
        by_cases hx : 0 < nxP p σ.1
        · obtain ⟨d', hd', hc⟩ := rch_end hd hx
          rw [if_pos hx] at p6
          refine ih d _ (by omega) ⟨ff, c2, rfl, Or.inr ⟨by rw [e6]; exact cI_t hx, nxf σ.1 p, d', hd', nxf_RGS hr hx, p6, hc, ?_⟩⟩
          rw [← hs, hd', cntP_s, if_pos hx]; omega
        · refine ih d _ (by omega) ⟨ff, c2, rfl, Or.inl ⟨by rw [e6]; exact cI_f hx, ?_⟩⟩
          rw [← hs, cntP_end (by omega)]; omega
      simp only [nm_e']
      by_cases hj : jud σ.1 (bdB (sS σ) σ.1 σ.2.2.2.2.2.1 p k) = -9
      · rw [if_pos hj, show (1 : Int32) = nI 1 from rfl, nI_add]
        refine hgo _ ?_
        unfold judO; rw [beq_iff_eq.mpr hj]; rfl
      · rw [if_neg hj, add0]
        refine hgo _ ?_
        unfold judO; rw [beq_eq_false_iff_ne.mpr hj]; rfl
  · rw [if_pos hk, if_neg hk]
    exact MD_no1 h rfl_lo
