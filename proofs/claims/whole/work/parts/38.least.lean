/-! by hand: wrong, least -/
def R_wrong (σ : Sg) (v : Int32) : Ans := match opn σ.1 v with
  | some p => (σ, nI (wrg (sS σ) σ.1 p))
  | none => no σ 1
theorem SCRw : ∀ a ∈ [21, 22], a ∈ SCR := by decide
theorem dg0.of {σ : Sg} (hw : WF σ) {y : Nat} : dg0 (tab σ.2.2.2.2.2.2.1 y σ.2.2.1) σ.1 := fun k x hk hx => (TWF.of hw (y := y)).2.2.2 k x x hk (by have := hw.2.1; omega) (by have := hw.2.1; omega) (Or.inl rfl)
theorem SP_wrong_wp {σ : Sg} {M : Mem} (v : Int32) (hw : WF σ) (h : RC M σ) : wp (SP_wrong v M) (EC (R_wrong σ v) M) := by
  have hn : M 1 2 = nI σ.1 := h.1
  unfold SP_wrong R_wrong
  rw [hn]
  refine wp_bnd2 (Pa_readNumber_wp isP_26 hw.1 hw.2.1) (fun r M1 hr => ?_)
  obtain ⟨f1, hr⟩ := hr
  have g1 : Fr SCR M M1 := f1.mo SCR26
  have h1 := h.fr g1
  rcases hr with ⟨p, e, rfl, hp⟩ | ⟨e, rfl⟩
  · rw [e, if_neg one_ne0, h1.2.1]
    refine wp_bind (SP_look hw.2.2.1 hw h1) (fun M2 hM2 => ?_)
    obtain ⟨f2, t2⟩ := hM2
    have g2 := f2.mo SCR3
    have h2 := h1.fr g2
    refine wp_bnd2 (Bl_misfits_wp t2 h2.1 hw.2.1 (hp.fr (f2 26 (by decide)) (f2 27 (by decide))) (opn_some e).1 (dg0.of hw)) (fun r4 M4 hM4 => ?_)
    obtain ⟨f4, e4⟩ := hM4
    have g4 := f4.mo SCRw
    rw [show r4 = _ from e4]
    exact wp_some (ec_ok (h2.fr g4) ((g1.tr g2).tr g4).hi)
  · rw [e, if_pos rfl]
    exact SP_no1 h1 g1.hi
theorem MD_wrong_wp {σ : Sg} {M : Mem} (v : Int32) (hw : WF σ) (h : RM M σ) : wp (MD_wrong v M) (EM (R_wrong σ v) M) := by
  have hn : M 33 8 = nI σ.1 := h.1
  have h7 : σ.1 ≤ 7 := hw.2.1
  unfold MD_wrong R_wrong
  refine wp_bnd2 (MD_opens_wp (Or.inl rfl) hw.1 hw.2.1 hn) (fun r M1 hr => ?_)
  obtain ⟨f1, hr⟩ := hr
  have g1 : Fr SMR M M1 := f1.mo SMR50
  have h1 := h.fr g1
  rcases hr with ⟨p, e, e2, hp⟩ | ⟨e, e2⟩
  · have hR := (opn_some e).1
    have ht := hR.top7
    simp only at e2
    rw [e, e2, if_pos (nI_nn (by omega)), h1.2.1]
    refine wp_bind (MD_look hw.2.2.1 hw h1) (fun M2 hM2 => ?_)
    obtain ⟨f2, t2⟩ := hM2
    have g2 := f2.mo SMR49
    have h2 := h1.fr g2
    rw [MD_wrongOf_eq t2 h2.1 h7 (hp.fr (f2 50 (by decide))) (fun z hz => by have := hR.ltn z hz; omega) (dg0.of hw), bind_s]
    exact wp_some (em_ok h2 (g1.tr g2).lo)
  · simp only at e2
    rw [e, e2, if_neg m1_nn]
    exact MD_no1 h1 g1.lo
/-! least -/
abbrev Lst := Option (Nat × Nat × Option Nat)
def lsT (n : Nat) (W : (Nat → Nat) → Nat) (st : Lst) (p : Nat → Nat) : Lst :=
  match st with
  | none => some (num p n, W p, none)
  | some (c, b, s) => if b ≤ W p then some (c, b, match s with
    | none => some (W p)
    | some s' => if s' ≤ W p then some s' else some (W p)) else some (num p n, W p, some b)
def lsS (n v : Nat) (W : (Nat → Nat) → Nat) (st : Lst) (p : Nat → Nat) : Lst := if top p n = v then lsT n W st p else st
theorem lsT_a {n x y : Nat} {W : (Nat → Nat) → Nat} {p : Nat → Nat} (h : y ≤ W p) : lsT n W (some (x, y, none)) p = some (x, y, some (W p)) := if_pos h
theorem lsT_b {n x y z : Nat} {W : (Nat → Nat) → Nat} {p : Nat → Nat} (h : y ≤ W p) (hz : z ≤ W p) : lsT n W (some (x, y, some z)) p = some (x, y, some z) := by
  show (if y ≤ W p then some (x, y, if z ≤ W p then some z else some (W p)) else _) = _
  rw [if_pos h, if_pos hz]
theorem lsT_c {n x y z : Nat} {W : (Nat → Nat) → Nat} {p : Nat → Nat} (h : y ≤ W p) (hz : ¬ z ≤ W p) : lsT n W (some (x, y, some z)) p = some (x, y, some (W p)) := by
  show (if y ≤ W p then some (x, y, if z ≤ W p then some z else some (W p)) else _) = _
  rw [if_pos h, if_neg hz]
theorem lsT_d {n x y : Nat} {z : Option Nat} {W : (Nat → Nat) → Nat} {p : Nat → Nat} (h : ¬ y ≤ W p) : lsT n W (some (x, y, z)) p = some (num p n, W p, some y) := if_neg h
def lsF (n v : Nat) (W : (Nat → Nat) → Nat) : Nat → Lst → (Nat → Nat) → Lst
  | 0, st, p => lsS n v W st p
  | d + 1, st, p => if 0 < nxP p n then lsF n v W d (lsS n v W st p) (nxf n p) else lsS n v W st p
theorem lsF_s (n v : Nat) (W : (Nat → Nat) → Nat) (d : Nat) (st : Lst) (p : Nat → Nat) : lsF n v W (d + 1) st p = if 0 < nxP p n then lsF n v W d (lsS n v W st p) (nxf n p) else lsS n v W st p := rfl
theorem lsF_end {n v : Nat} {W : (Nat → Nat) → Nat} {st : Lst} {p : Nat → Nat} (h : nxP p n = 0) : ∀ d, lsF n v W d st p = lsS n v W st p
  | 0 => rfl
  | d + 1 => by rw [lsF_s, if_neg (show ¬ 0 < nxP p n by omega)]
def snV (n v : Nat) : Nat → (Nat → Nat) → Prop
  | 0, p => top p n = v
  | d + 1, p => top p n = v ∨ (0 < nxP p n ∧ snV n v d (nxf n p))
def snC (n v : Nat) : Nat → Nat → Bool
  | 0, m => top (dg n m) n == v
  | d + 1, m => top (dg n m) n == v || (decide (0 < nxP (dg n m) n) && snC n v d (num (nxf n (dg n m)) n))
theorem snC_all : ∀ n, n < 8 → ∀ v, v < 8 → 1 ≤ v → v ≤ n → snC n v 876 0 = true := by decide +kernel
theorem snV_of {n v : Nat} (h7 : n ≤ 7) : ∀ {d m : Nat} {p : Nat → Nat}, RGS n p → (∀ x, x < n → dg n m x = p x) → snC n v d m = true → snV n v d p
  | 0, m, p, hr, he, h => by
    have h' : (top (dg n m) n == v) = true := h
    rw [beq_iff_eq, top_cg he] at h'
    exact h'
  | d + 1, m, p, hr, he, h => by
    have h' : (top (dg n m) n == v || (decide (0 < nxP (dg n m) n) && snC n v d (num (nxf n (dg n m)) n))) = true := h
    rw [Bool.or_eq_true, beq_iff_eq, Bool.and_eq_true, decide_eq_true_iff, top_cg he, nxP_cg he] at h'
    rcases h' with z | ⟨z1, z2⟩
    · exact Or.inl z
    have hR := nxf_RGS hr z1
    refine Or.inr ⟨z1, snV_of h7 hR ?_ z2⟩
    rw [num_cg (nxf_cg he)]
    exact dg_num (fun x hx => by have := hR.ltn x hx; omega)
theorem lsS_ne {n v : Nat} {W : (Nat → Nat) → Nat} {st : Lst} {p : Nat → Nat} (h : st ≠ none ∨ top p n = v) : lsS n v W st p ≠ none := by
  unfold lsS
  by_cases e : top p n = v
  · rw [if_pos e]
    rcases st with _ | ⟨c, b, s⟩
    · exact Option.some_ne_none _
    · unfold lsT
      dsimp only
      split
      · exact Option.some_ne_none _
      · exact Option.some_ne_none _
  · rw [if_neg e]
    exact h.resolve_right e
theorem lsF_ne {n v : Nat} {W : (Nat → Nat) → Nat} : ∀ {d : Nat} {st : Lst} {p : Nat → Nat}, (st ≠ none ∨ snV n v d p) → lsF n v W d st p ≠ none
  | 0, st, p, h => lsS_ne h
  | d + 1, st, p, h => by
    rw [lsF_s]
    split
    · refine lsF_ne ?_
      rcases h with z | z | z
      · exact Or.inl (lsS_ne (Or.inl z))
      · exact Or.inl (lsS_ne (Or.inr z))
      · exact Or.inr z.2
    · rename_i c
      rcases h with z | z | z
      · exact lsS_ne (Or.inl z)
      · exact lsS_ne (Or.inr z)
      · exact absurd z.1 c
def lsE (u : Int32) : Lst → Int32
  | none => 0
  | some (c, b, s) => if u = 0 then nI c else if u = 1 then nI b else match s with
    | some s' => nI s' - nI b
    | none => -9
def s1 : Option Nat → Int32
  | none => -1
  | some s => nI s
def R_least (σ : Sg) (v u : Int32) : Ans := if oB v 1 σ.1 = 4 then no σ 4 else if oB v 1 σ.1 = 6 then no σ 6 else if inrB u 3 = true then (σ, lsE u (lsF σ.1 v.toInt.toNat (wrg (sS σ) σ.1) 876 none (fun _ => 0))) else no σ 2
theorem SCRl : ∀ a ∈ [21, 22, 26, 27], a ∈ SCR := by decide
/-- what the class holds of it -/
def LC (st : Lst) (a b c : Int32) : Prop := match st with
  | none => a = 0 ∧ b = -1 ∧ c = -1
  | some (x, y, z) => a = nI x ∧ b = nI y ∧ c = s1 z ∧ y < 10000 ∧ ∀ w, z = some w → w < 10000
def LM (st : Lst) (a b c : Int32) : Prop := match st with
  | none => a = -9 ∧ b = 0 ∧ c = -1
  | some (x, y, z) => a = nI x ∧ x < 2 ^ 31 ∧ b = nI y ∧ c = s1 z ∧ y < 10000 ∧ ∀ w, z = some w → w < 10000
theorem wrg_le {S : Nat → Nat} {n : Nat} {p : Nat → Nat} (h7 : n ≤ 7) : wrg S n p < 10000 := by
  have h1 : ∀ a b, sm 3 (fun k => mf S n p k a b) ≤ 3 * 49 := fun a b => sm_le (fun k _ => mf_le h7)
  have h2 : ∀ a, sm n (fun b => sm 3 (fun k => mf S n p k a b)) ≤ n * 147 := fun a => sm_le (fun b _ => h1 a b)
  have h3 : wrg S n p ≤ n * (n * 147) := sm_le (fun a _ => h2 a)
  have h4 : n * (n * 147) ≤ 7 * (7 * 147) := Nat.mul_le_mul h7 (Nat.mul_le_mul h7 (Nat.le_refl _))
  omega
theorem nI_ne9 {x : Nat} (h : x < 2 ^ 31) : ¬ nI x = -9 := fun e => by
  have := nI_pos (n := x) h
  rw [e] at this
  exact this (by decide)
theorem rng2 {β : Type} {v : Int32} {c : Nat} (hc : c < 2 ^ 30) {a b : Option β} : (if v < 0 then a else if v ≤ nI c then b else a) = if inrB v (c + 1) = true then b else a := by
  have h1 : (v < 0) ↔ v.toInt < 0 := i_lt
  have h2 : (v ≤ nI c) ↔ v.toInt ≤ c := by rw [i_le, nI_toInt (by omega)]
  by_cases h : inr v (c + 1)
  · rw [if_pos (inrB_iff.mpr h)]
    have := h.1; have := h.2
    rw [if_neg (by rw [h1]; omega), if_pos (by rw [h2]; omega)]
  · rw [if_neg (fun z => h (inrB_iff.mp z))]
    by_cases a1 : v < 0
    · rw [if_pos a1]
    · rw [if_neg a1, if_neg (fun z => h ⟨by rw [h1] at a1; omega, by rw [h2] at z; omega⟩)]
theorem sn1 {z : Option Nat} (h : ∀ w, z = some w → w < 10000) : (s1 z < 0 ↔ z = none) := by
  cases z with
  | none => exact ⟨fun _ => rfl, fun _ => m1_neg⟩
  | some w =>
    have := h w rfl
    exact ⟨fun q => absurd q (nI_pos (by omega)), fun q => by cases q⟩
set_option maxHeartbeats 1000000 in
theorem SP_least_wp {σ : Sg} {M : Mem} (v u : Int32) (hw : WF σ) (h : RC M σ) : wp (SP_least v u M) (EC (R_least σ v u) M) := by
  have h7 : σ.1 ≤ 7 := hw.2.1
  have h1n : 1 ≤ σ.1 := hw.1
  have hn : M 1 2 = nI σ.1 := h.1
  unfold SP_least
  rw [hn, show (1 : Int32) = nI 1 from rfl, bnd (by omega) (by omega)]
  unfold R_least
  rcases oB_v v 1 σ.1 with e | e | e
  · simp only [e, if_true]
    exact SP_no4 h rfl_hi
  · simp only [e, if_true, if_false, show ¬ (6 = 4) by decide]
    exact SP_no6 h rfl_hi
  simp only [e, if_false, show ¬ (0 = 4) by decide, show ¬ (0 = 6) by decide]
  rw [jp_e, show (2 : Int32) = nI 2 from rfl, rng2 (by omega)]
  by_cases hu : inrB u 3 = true
  · rw [if_pos hu, if_pos hu, h.2.1]
    obtain ⟨V, hV1, hV2, rfl⟩ := oB_0 (by omega) e
    rw [nI_toInt (by omega), show ((V : Int)).toNat = V from rfl]
    refine wp_bind (SP_look hw.2.2.1 hw h) (fun M2 hM2 => ?_)
    obtain ⟨f2, t2⟩ := hM2
    have g2 := f2.mo SCR3
    have h2 := h.fr g2
    have hn2 : M2 1 2 = nI σ.1 := h2.1
    have hne : lsF σ.1 V (wrg (sS σ) σ.1) 876 none (fun _ => 0) ≠ none := lsF_ne (Or.inr (snV_of h7 (RGS_0 _) (fun x _ => by unfold dg; simp) (snC_all σ.1 (by omega) V (by omega) hV1 hV2)))
    obtain ⟨W, hW⟩ : ∃ W, W = wrg (sS σ) σ.1 := ⟨_, rfl⟩
    have hWl : ∀ p, W p < 10000 := fun p => by rw [hW]; exact wrg_le h7
    rw [← hW] at hne ⊢
    obtain ⟨R, hR⟩ : ∃ R, R = lsF σ.1 V W 876 none (fun _ => 0) := ⟨_, rfl⟩
    rw [← hR] at hne ⊢
    unfold Bl_bestWith
    rw [hn2]
    refine wp_bnd2 (P := fun r => Fr [21, 22, 26, 27] M2 r.2 ∧ r.1 = lsE u R) (wp_bind (Pa_allInOne_wp isP_26 h1n h7) (fun M3 hM3 => ?_)) (fun r4 M4 hM4 => ?_)
    · obtain ⟨f3, p3⟩ := hM3
      have hexit : ∀ (a b c : Int32) (t : Mem), Fr [21, 22, 26, 27] M2 t → LC R a b c → wp (if u = 0 then some (a, t) else if u = 1 then some (b, t) else if 0 ≤ c then some (c - b, t) else some (-9, t)) (fun r => Fr [21, 22, 26, 27] M2 r.2 ∧ r.1 = lsE u R) := fun a b c t hf hL => by
        match R, hne, hL with
        | some (x, y, z), _, hL =>
          obtain ⟨rfl, rfl, rfl, l1, l2⟩ := hL
          unfold lsE
          dsimp only
          by_cases u0 : u = 0
          · rw [if_pos u0, if_pos u0]; exact wp_some ⟨hf, rfl⟩
          · rw [if_neg u0, if_neg u0]
            by_cases u1 : u = 1
            · rw [if_pos u1, if_pos u1]; exact wp_some ⟨hf, rfl⟩
            · rw [if_neg u1, if_neg u1]
              cases z with
              | none => rw [if_neg (show ¬ 0 ≤ s1 none from m1_nn)]; exact wp_some ⟨hf, rfl⟩
              | some w => rw [if_pos (show 0 ≤ s1 (some w) from nI_nn (by have := l2 w rfl; omega))]; exact wp_some ⟨hf, rfl⟩
      refine LOOP_up4 (fun i (a b c : Int32) (t : Int32 × Mem) => (a, b, c, t.1, nI i, t.2)) 877 (by omega) (fun i a b c t => Fr [21, 22, 26, 27] M2 t.2 ∧ ∃ st, LC st a b c ∧ ((t.1 = 0 ∧ R = st) ∨ (t.1 = 1 ∧ ∃ p, RGS σ.1 p ∧ PT t.2 26 σ.1 p ∧ rch σ.1 (876 - i) p ∧ i ≤ 876 ∧ lsF σ.1 V W (876 - i) st p = R))) (fun o => wp o _) ?_ ?_ 0 0 (-1) (-1) (1, M3) (by omega) ⟨f3.mo (by simp), none, ⟨rfl, rfl, rfl⟩, Or.inr ⟨rfl, _, RGS_0 _, p3, rch_0 h7, by omega, hR.symm⟩⟩
      · rintro i a b c ⟨g, t⟩ ag hi ⟨hf, st, hst, hv⟩ ih
        show wp (Bl_bestWith_L23 (nI V) _ ag a b c g (nI i) t) _
        unfold Bl_bestWith_L23
        rw [if_neg (by rw [show (877 : Int32) = nI 877 from rfl, nI_leI (by omega) (by omega)]; omega)]
        dsimp only at hf hv
        rcases hv with ⟨rfl, hR9⟩ | ⟨rfl, p, hr, hp, hd, hi6, hs⟩
        · rw [if_pos rfl]
          exact hexit a b c t hf (hR9 ▸ hst)
        · rw [if_neg one_ne0]
          have htp := hr.top7
          have hgo : ∀ (t' : Mem) (a b c : Int32), Fr [21, 22] t t' → LC (lsS σ.1 V W st p) a b c → wp (bnd2 (Pa_forward t') fun r_1 M4 => ag (a, b, c, r_1, nI i + 1, M4)) (fun r => Fr [21, 22, 26, 27] M2 r.2 ∧ r.1 = lsE u R) := fun t' a b c ft hL => by
            have hp' : PT t' 26 σ.1 p := hp.fr (ft 26 (by decide)) (ft 27 (by decide))
            refine wp_bnd2 (Pa_forward_wp h1n h7 hp' hr) (fun r4 M6 h6 => ?_)
            obtain ⟨f6, e6, p6⟩ := h6
            dsimp only at e6 p6
            have ff : Fr [21, 22, 26, 27] M2 M6 := (hf.tr (ft.mo (by simp))).tr (f6.mo (by simp))
            rw [nI_1]
            refine ih a b c (r4, M6) ⟨ff, _, hL, ?_⟩
            by_cases hx : 0 < nxP p σ.1
            · obtain ⟨d', hd', hc⟩ := rch_end hd hx
              rw [if_pos hx] at p6
              refine Or.inr ⟨by rw [e6]; exact cI_t hx, nxf σ.1 p, nxf_RGS hr hx, p6, ?_, by omega, ?_⟩
              · rw [show 876 - (i + 1) = d' by omega]; exact hc
              · rw [show 876 - (i + 1) = d' by omega, ← hs, hd', lsF_s, if_pos hx]
            · refine Or.inl ⟨by rw [e6]; exact cI_f hx, ?_⟩
              rw [← hs, lsF_end (by omega)]
          simp only [jp_e]
          rw [hp.2.1]
          simp (disch := omega) only [nI_eq]
          by_cases hv : top p σ.1 = V
          · rw [if_pos hv]
            refine wp_bnd2 (Bl_misfits_wp (t2.fr (hf 3 (by decide))) (by rw [hf 1 (by decide)]; exact hn2) h7 hp hr (dg0.of hw)) (fun r5 M5 h5 => ?_)
            obtain ⟨f5, e5⟩ := h5
            have e5' : r5 = nI (W p) := by rw [hW]; exact e5
            have hp5 : PT M5 26 σ.1 p := hp.fr (f5 26 (by decide)) (f5 27 (by decide))
            have hwp := hWl p
            rw [e5', if_neg (nI_pos (by omega)), if_neg (nI_pos (by omega)), Pa_number_eq isP_26 h7 hp5, bind_s]
            have hS : lsS σ.1 V W st p = lsT σ.1 W st p := if_pos hv
            rw [hS] at hgo
            clear hS hs ih
            rcases st with _ | ⟨x, y, z⟩
            · obtain ⟨ha, hb, hc⟩ := hst
              rw [ha, hb, hc, if_pos m1_neg]
              refine hgo M5 _ _ _ f5 ?_
              exact ⟨rfl, rfl, rfl, hwp, fun w hw' => by cases hw'⟩
            · obtain ⟨ha, hb, hc, l1, l2⟩ := hst
              rw [ha, hb, hc, if_neg (nI_pos (by omega))]
              simp (disch := omega) only [nI_leI]
              by_cases hy : y ≤ W p
              · rw [if_pos hy]
                cases z with
                | none =>
                  rw [if_pos (show s1 none < 0 from m1_neg)]
                  refine hgo M5 _ _ _ f5 ?_
                  rw [lsT_a hy]
                  exact ⟨rfl, rfl, rfl, l1, fun w hw' => by cases hw'; exact hwp⟩
                | some z' =>
                  have l3 := l2 z' rfl
                  show wp (if nI z' < 0 then _ else if nI z' ≤ nI (W p) then _ else _) _
                  rw [if_neg (nI_pos (by omega))]
                  simp (disch := omega) only [nI_leI]
                  by_cases hz : z' ≤ W p
                  · rw [if_pos hz]
                    refine hgo M5 _ _ _ f5 ?_
                    rw [lsT_b hy hz]
                    exact ⟨rfl, rfl, rfl, l1, fun w hw' => by cases hw'; exact l3⟩
                  · rw [if_neg hz]
                    refine hgo M5 _ _ _ f5 ?_
                    rw [lsT_c hy hz]
                    exact ⟨rfl, rfl, rfl, l1, fun w hw' => by cases hw'; exact hwp⟩
              · rw [if_neg hy]
                refine hgo M5 _ _ _ f5 ?_
                rw [lsT_d hy]
                exact ⟨rfl, rfl, rfl, hwp, fun w hw' => by cases hw'; exact l1⟩
          · rw [if_neg hv, if_pos m1_neg, if_pos m1_neg]
            refine hgo t _ _ _ Fr.rf ?_
            have hS : lsS σ.1 V W st p = st := if_neg hv
            rw [hS]; exact hst
      · rintro a b c ⟨g, t⟩ ag ⟨hf, st, hst, hv⟩
        show wp (Bl_bestWith_L23 (nI V) _ ag a b c g (nI 877) t) _
        unfold Bl_bestWith_L23
        rw [if_pos (by decide)]
        dsimp only at hf hv
        rcases hv with ⟨rfl, hR9⟩ | ⟨rfl, p, hr, hp, hd, hi6, hs⟩
        · exact hexit a b c t hf (hR9 ▸ hst)
        · omega
    · obtain ⟨f4, e4⟩ := hM4
      have g4 := f4.mo SCRl
      rw [show r4 = _ from e4]
      exact wp_some (ec_ok (h2.fr g4) (g2.tr g4).hi)
  · rw [if_neg hu, if_neg hu]
    exact SP_no2 h rfl_hi
theorem MD_no_var {M M0 : Mem} {σ : Sg} (w : Nat) (hw : w = 2 ∨ w = 4 ∨ w = 6) (h : RM M σ) (hf : ∀ k, k < 33 → M k = M0 k) : wp (bnd2 (MD_no (-(nI w)) M) fun r M' => some (r, M')) (EM (no σ w) M0) := by
  rcases hw with rfl | rfl | rfl
  · exact MD_no2 h hf
  · exact MD_no4 h hf
  · exact MD_no6 h hf
set_option maxHeartbeats 1000000 in
theorem MD_least_wp {σ : Sg} {M : Mem} (v u : Int32) (hw : WF σ) (h : RM M σ) : wp (MD_least v u M) (EM (R_least σ v u) M) := by
  have h7 : σ.1 ≤ 7 := hw.2.1
  have h1n : 1 ≤ σ.1 := hw.1
  have hn : M 33 8 = nI σ.1 := h.1
  unfold MD_least
  rw [hn, MD_out_oB (lo := 1) (hi := σ.1) rfl (by rw [Int32.toInt_toInt64, nI_toInt (by omega)]), bind_s, jp_e]
  unfold R_least
  rcases oB_v v 1 σ.1 with e | e | e
  · simp only [e, if_true, neg_4, if_false]
    exact MD_no_var 4 (by simp) h rfl_lo
  · simp only [e, if_true, if_false, show ¬ (6 = 4) by decide, neg_6]
    exact MD_no_var 6 (by simp) h rfl_lo
  simp only [e, if_false, show ¬ (0 = 4) by decide, show ¬ (0 = 6) by decide, neg_0, if_true]
  have eI : MD_isIn u.toInt64 0 2 = some (cI (inrB u 3 = true)) := by
    rw [MD_isIn_eq]
    congr 1
    refine cI_iff ?_
    rw [inrB_iff, Int32.toInt_toInt64, l0, show (2 : Int64).toInt = 2 from rfl]
    unfold inr
    omega
  rw [eI, bind_s]
  simp only [cI_0]
  by_cases hu : inrB u 3 = true
  · rw [if_neg (not_not_intro hu), if_pos hu, h.2.1]
    obtain ⟨V, hV1, hV2, rfl⟩ := oB_0 (by omega) e
    rw [nI_toInt (by omega), show ((V : Int)).toNat = V from rfl]
    refine wp_bind (MD_look hw.2.2.1 hw h) (fun M2 hM2 => ?_)
    obtain ⟨f2, t2⟩ := hM2
    have g2 := f2.mo SMR49
    have h2 := h.fr g2
    have hn2 : M2 33 8 = nI σ.1 := h2.1
    have hne : lsF σ.1 V (wrg (sS σ) σ.1) 876 none (fun _ => 0) ≠ none := lsF_ne (Or.inr (snV_of h7 (RGS_0 _) (fun x _ => by unfold dg; simp) (snC_all σ.1 (by omega) V (by omega) hV1 hV2)))
    obtain ⟨W, hW⟩ : ∃ W, W = wrg (sS σ) σ.1 := ⟨_, rfl⟩
    have hWl : ∀ p, W p < 10000 := fun p => by rw [hW]; exact wrg_le h7
    rw [← hW] at hne ⊢
    obtain ⟨R, hR⟩ : ∃ R, R = lsF σ.1 V W 876 none (fun _ => 0) := ⟨_, rfl⟩
    rw [← hR] at hne ⊢
    refine wp_bind (MD_firstParting_wp h7 hn2) (fun M3 hM3 => ?_)
    obtain ⟨f3, p3⟩ := hM3
    refine LOOP_inv (fun d (s : Int32 × Int32 × Int32 × Int32 × Mem) => Fr [50, 53] M2 s.2.2.2.2 ∧ ∃ st, LM st s.1 s.2.1 s.2.2.1 ∧ ((s.2.2.2.1 = 0 ∧ R = st) ∨ (s.2.2.2.1 = 1 ∧ ∃ p d', d = d' + 1 ∧ RGS σ.1 p ∧ AR s.2.2.2.2 50 σ.1 p ∧ rch σ.1 d' p ∧ lsF σ.1 V W d' st p = R))) (fun o => wp o _) ?_ FU 877 (-9, 0, -1, 1, M3) (by unfold FU; omega) ⟨f3.mo (by simp), none, ⟨rfl, rfl, rfl⟩, Or.inr ⟨rfl, _, 876, rfl, RGS_0 _, p3, rch_0 h7, hR.symm⟩⟩
    rintro d ⟨a, b, c, g, t⟩ ag ⟨hf, st, hst, hv⟩ ih
    show wp (MD_least_L66 (nI V) _ ag a b c g t) _
    unfold MD_least_L66
    dsimp only at hf hv hst
    rcases hv with ⟨rfl, hR9⟩ | ⟨rfl, p, d, rfl, hr, hp, hd, hs⟩
    · rw [if_pos rfl]
      rw [← hR9] at hst
      have hfin : wp (some (lsE u R, t)) (EM (σ, lsE u R) M) := wp_some (em_ok (h2.fr (hf.mo SMRn)) (g2.tr (hf.mo SMRn)).lo)
      rcases R with _ | ⟨x, y, z⟩
      · exact absurd rfl hne
      obtain ⟨rfl, -, rfl, rfl, l1, l2⟩ := hst
      unfold lsE at hfin ⊢
      dsimp only at hfin ⊢
      by_cases u0 : u = 0
      · rw [if_pos u0] at hfin; rw [if_pos u0, if_pos u0]; exact hfin
      · rw [if_neg u0] at hfin; rw [if_neg u0, if_neg u0]
        by_cases u1 : u = 1
        · rw [if_pos u1] at hfin; rw [if_pos u1, if_pos u1]; exact hfin
        · rw [if_neg u1] at hfin; rw [if_neg u1, if_neg u1]
          cases z with
          | none => rw [if_neg (show ¬ 0 ≤ s1 none from m1_nn)]; exact hfin
          | some w => rw [if_pos (show 0 ≤ s1 (some w) from nI_nn (by have := l2 w rfl; omega))]; exact hfin
    · rw [if_neg one_ne0]
      have htp := hr.top7
      have e33 : t 33 8 = nI σ.1 := by rw [hf 33 (by decide)]; exact hn2
      have hp100 : ∀ x, x < σ.1 → p x < 100 := fun x hx => by have := hr.ltn x hx; omega
      rw [MD_parts_eq h7 e33 hp hr, bind_s]
      simp only [jp_e]
      have hgo : ∀ (t' : Mem) (a b c : Int32), Fr [53] t t' → LM (lsS σ.1 V W st p) a b c → wp (bnd2 (MD_nextParting t') fun r_1 M4 => ag (a, b, c, r_1, M4)) (EM (σ, lsE u R) M) := fun t' a b c ft hL => by
        have hp' : AR t' 50 σ.1 p := hp.fr (ft 50 (by decide))
        refine wp_bnd2 (MD_nextParting_wp h1n h7 (by rw [ft 33 (by decide)]; exact e33) hp' hr) (fun r4 M6 h6 => ?_)
        obtain ⟨f6, e6, p6⟩ := h6
        dsimp only at e6 p6
        have ff : Fr [50, 53] M2 M6 := (hf.tr (ft.mo (by simp))).tr (f6.mo (by simp))
        refine ih d _ (by omega) ⟨ff, _, hL, ?_⟩
        by_cases hx : 0 < nxP p σ.1
        · obtain ⟨d', hd', hc⟩ := rch_end hd hx
          rw [if_pos hx] at p6
          refine Or.inr ⟨by rw [e6]; exact cI_t hx, nxf σ.1 p, d', hd', nxf_RGS hr hx, p6, hc, ?_⟩
          rw [← hs, hd', lsF_s, if_pos hx]
        · refine Or.inl ⟨by rw [e6]; exact cI_f hx, ?_⟩
          rw [← hs, lsF_end (by omega)]
      simp (disch := omega) only [nI_eq]
      by_cases hv : top p σ.1 = V
      · rw [if_pos hv, MD_wrongOf_eq (t2.fr (hf 49 (by decide))) e33 h7 hp hp100 (dg0.of hw), bind_s]
        have hwp := hWl p
        rw [show wrg (tab σ.2.2.2.2.2.2.1 σ.2.1 σ.2.2.1) σ.1 p = W p by rw [hW]]
        have hS : lsS σ.1 V W st p = lsT σ.1 W st p := if_pos hv
        rw [hS] at hgo
        clear hS hs ih
        have hnum := num_lt7 hr h7
        have hN : ∀ z : Option Nat, lsT σ.1 W st p = some (num p σ.1, W p, z) → (∀ w, z = some w → w < 10000) → ∀ c', c' = s1 z → wp (bnd2 (MD_number 50 t) fun r_5 M6 => bnd2 (MD_nextParting M6) fun r_1 M4 => ag (r_5, nI (W p), c', r_1, M4)) (EM (σ, lsE u R) M) := fun z hz hz2 c' hc' => by
          refine wp_bnd2 (MD_number_wp (k := 50) (by omega) (by omega) (by omega) rfl h7 e33 hp hp100) (fun r3 M5 h5 => ?_)
          obtain ⟨f5, e5⟩ := h5
          rw [show r3 = _ from e5, num_cg (RGS_cn hr)]
          refine hgo M5 _ _ _ f5 ?_
          rw [hz]
          exact ⟨rfl, hnum.2, rfl, hc', hwp, hz2⟩
        rcases st with _ | ⟨x, y, z⟩
        · obtain ⟨ha, hb, hc⟩ := hst
          rw [ha, if_pos rfl, if_pos rfl]
          exact hN none rfl (fun w hw' => by cases hw') _ rfl
        · obtain ⟨ha, l0', hb, hc, l1, l2⟩ := hst
          rw [ha, hb, hc, if_neg (nI_ne9 l0'), if_neg (nI_ne9 l0')]
          simp (disch := omega) only [nI_leI]
          by_cases hy : y ≤ W p
          · rw [if_pos hy]
            cases z with
            | none =>
              rw [if_pos (show s1 none < 0 from m1_neg)]
              refine hgo t _ _ _ Fr.rf ?_
              rw [lsT_a hy]
              exact ⟨rfl, l0', rfl, rfl, l1, fun w hw' => by cases hw'; exact hwp⟩
            | some z' =>
              have l3 := l2 z' rfl
              show wp (if nI z' < 0 then _ else if nI z' ≤ nI (W p) then _ else _) _
              rw [if_neg (nI_pos (by omega))]
              simp (disch := omega) only [nI_leI]
              by_cases hz : z' ≤ W p
              · rw [if_pos hz]
                refine hgo t _ _ _ Fr.rf ?_
                rw [lsT_b hy hz]
                exact ⟨rfl, l0', rfl, rfl, l1, fun w hw' => by cases hw'; exact l3⟩
              · rw [if_neg hz]
                refine hgo t _ _ _ Fr.rf ?_
                rw [lsT_c hy hz]
                exact ⟨rfl, l0', rfl, rfl, l1, fun w hw' => by cases hw'; exact hwp⟩
          · rw [if_neg hy]
            exact hN (some y) (lsT_d hy) (fun w hw' => by cases hw'; exact l1) _ rfl
      · rw [if_neg hv]
        refine hgo t _ _ _ Fr.rf ?_
        have hS : lsS σ.1 V W st p = st := if_neg hv
        rw [hS]; exact hst
  · rw [if_pos hu, if_neg hu]
    exact MD_no_var 2 (by simp) h rfl_lo
