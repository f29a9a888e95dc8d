/-! by hand: what both hold: the state σ; the table of ties of a year -/
/-- persons; year; ties told; bytes; newcomer's ties; marks; ties (0 from, 1 to, 2 kind, 3 strength, 4 since, 5 until); bytes; newcomer (0 kind, 1 person, 2 to); refusals -/
abbrev Sg := Nat × Nat × Nat × Nat × Nat × (Nat → Nat) × (Nat → Nat → Nat) × (Nat → Nat) × (Nat → Nat → Nat) × (Nat → Int32)
def tieOk (n : Nat) (t : Nat → Nat) : Prop := t 0 < n ∧ t 1 < n ∧ t 0 ≠ t 1 ∧ t 2 < 3 ∧ 1 ≤ t 3 ∧ t 3 ≤ 9 ∧ t 4 ≤ 100 ∧ t 5 ≤ 100
def WF : Sg → Prop := fun (n, y, nt, tb, nc, ma, tf, tp, nf, _) =>
  1 ≤ n ∧ n ≤ 7 ∧ y ≤ 100 ∧ nt ≤ 60 ∧ tb ≤ 60 ∧ nc ≤ 6 ∧ (∀ x, x < 7 → ma x ≤ 3) ∧ (∀ i, i < nt → tieOk n (tf i)) ∧ (∀ i, i < tb → tp i < 256) ∧ ∀ i, i < nc → nf i 0 < 3 ∧ nf i 1 < n ∧ nf i 2 ≤ 1
def RC (M : Mem) : Sg → Prop := fun (n, y, nt, tb, nc, ma, tf, tp, nf, rf) =>
  M 1 2 = nI n ∧ M 0 12 = nI y ∧ M 4 1 = nI nt ∧ M 6 2 = nI tb ∧ M 10 3 = nI nc ∧ AR M 2 7 ma ∧ (∀ i, i < nt → ∀ j, j < 6 → M 5 (i * 6 + j) = nI (tf i j)) ∧ AR M 7 tb tp ∧ (∀ i, i < nc → M 11 i = nI (nf i 0) ∧ M 12 i = nI (nf i 1) ∧ M 13 i = nI (nf i 2)) ∧ ∀ i, i < 7 → M 32 i = rf i
def RM (M : Mem) : Sg → Prop := fun (n, y, nt, tb, nc, ma, tf, tp, nf, rf) =>
  M 33 8 = nI n ∧ M 33 10 = nI y ∧ M 33 9 = nI nt ∧ M 33 12 = nI tb ∧ M 33 33 = nI nc ∧ AR M 35 7 ma ∧ (∀ i, i < nt → M 36 i = nI (tf i 0) ∧ M 37 i = nI (tf i 1) ∧ M 38 i = nI (tf i 2) ∧ M 39 i = nI (tf i 3) ∧ M 40 i = nI (tf i 4) ∧ M 41 i = nI (tf i 5)) ∧ AR M 42 tb tp ∧ (∀ i, i < nc → M 58 i = nI (nf i 0) ∧ M 59 i = nI (nf i 1) ∧ M 60 i = nI (nf i 2)) ∧ ∀ i, i < 7 → M 34 i = rf i
def SCR : List Nat := [3, 8, 9, 15, 16, 17, 18, 19, 21, 22, 24, 25, 26, 27, 28, 29, 30, 31]
def SMR : List Nat := [43, 44, 45, 46, 47, 48, 49, 50, 51, 52, 53, 54, 55, 56, 57]
theorem RC.fr {M M' : Mem} {σ : Sg} (h : RC M σ) (hf : Fr SCR M M') : RC M' σ := by
  obtain ⟨n, y, nt, tb, nc, ma, tf, tp, nf, rf⟩ := σ
  obtain ⟨h1, h2, h3, h4, h5, h6, h7, h8, h9, h10⟩ := h
  refine ⟨?_, ?_, ?_, ?_, ?_, h6.fr (hf 2 (by decide)), ?_, h8.fr (hf 7 (by decide)), ?_, ?_⟩
  · rw [hf 1 (by decide)]; exact h1
  · rw [hf 0 (by decide)]; exact h2
  · rw [hf 4 (by decide)]; exact h3
  · rw [hf 6 (by decide)]; exact h4
  · rw [hf 10 (by decide)]; exact h5
  · rw [hf 5 (by decide)]; exact h7
  · rw [hf 11 (by decide), hf 12 (by decide), hf 13 (by decide)]; exact h9
  · rw [hf 32 (by decide)]; exact h10
theorem RM.fr {M M' : Mem} {σ : Sg} (h : RM M σ) (hf : Fr SMR M M') : RM M' σ := by
  obtain ⟨n, y, nt, tb, nc, ma, tf, tp, nf, rf⟩ := σ
  obtain ⟨h1, h2, h3, h4, h5, h6, h7, h8, h9, h10⟩ := h
  refine ⟨?_, ?_, ?_, ?_, ?_, h6.fr (hf 35 (by decide)), ?_, h8.fr (hf 42 (by decide)), ?_, ?_⟩
  · rw [hf 33 (by decide)]; exact h1
  · rw [hf 33 (by decide)]; exact h2
  · rw [hf 33 (by decide)]; exact h3
  · rw [hf 33 (by decide)]; exact h4
  · rw [hf 33 (by decide)]; exact h5
  · rw [hf 36 (by decide), hf 37 (by decide), hf 38 (by decide), hf 39 (by decide), hf 40 (by decide), hf 41 (by decide)]; exact h7
  · rw [hf 58 (by decide), hf 59 (by decide), hf 60 (by decide)]; exact h9
  · rw [hf 34 (by decide)]; exact h10
theorem RC.lo {M M' : Mem} {σ : Sg} (h : RC M σ) (hf : ∀ k, k < 33 → M' k = M k) : RC M' σ := by
  obtain ⟨n, y, nt, tb, nc, ma, tf, tp, nf, rf⟩ := σ
  obtain ⟨h1, h2, h3, h4, h5, h6, h7, h8, h9, h10⟩ := h
  refine ⟨?_, ?_, ?_, ?_, ?_, h6.fr (hf 2 (by decide)), ?_, h8.fr (hf 7 (by decide)), ?_, ?_⟩
  · rw [hf 1 (by decide)]; exact h1
  · rw [hf 0 (by decide)]; exact h2
  · rw [hf 4 (by decide)]; exact h3
  · rw [hf 6 (by decide)]; exact h4
  · rw [hf 10 (by decide)]; exact h5
  · rw [hf 5 (by decide)]; exact h7
  · rw [hf 11 (by decide), hf 12 (by decide), hf 13 (by decide)]; exact h9
  · rw [hf 32 (by decide)]; exact h10
theorem RM.hi {M M' : Mem} {σ : Sg} (h : RM M σ) (hf : ∀ k, 33 ≤ k → M' k = M k) : RM M' σ := by
  obtain ⟨n, y, nt, tb, nc, ma, tf, tp, nf, rf⟩ := σ
  obtain ⟨h1, h2, h3, h4, h5, h6, h7, h8, h9, h10⟩ := h
  refine ⟨?_, ?_, ?_, ?_, ?_, h6.fr (hf 35 (by decide)), ?_, h8.fr (hf 42 (by decide)), ?_, ?_⟩
  · rw [hf 33 (by decide)]; exact h1
  · rw [hf 33 (by decide)]; exact h2
  · rw [hf 33 (by decide)]; exact h3
  · rw [hf 33 (by decide)]; exact h4
  · rw [hf 33 (by decide)]; exact h5
  · rw [hf 36 (by decide), hf 37 (by decide), hf 38 (by decide), hf 39 (by decide), hf 40 (by decide), hf 41 (by decide)]; exact h7
  · rw [hf 58 (by decide), hf 59 (by decide), hf 60 (by decide)]; exact h9
  · rw [hf 34 (by decide)]; exact h10
theorem Fr.lo {M M' : Mem} (h : Fr SMR M M') : ∀ k, k < 33 → M' k = M k := fun k hk => h k (by
  have : ∀ a ∈ SMR, 33 ≤ a := by decide
  intro z; have := this k z; omega)
theorem Fr.hi {M M' : Mem} (h : Fr SCR M M') : ∀ k, 33 ≤ k → M' k = M k := fun k hk => h k (by
  have : ∀ a ∈ SCR, a < 33 := by decide
  intro z; have := this k z; omega)
/-- a call's end: its answer, the state behind it, the other's cells as they were -/
def OC (σ' : Sg) (a : Int32) (M : Mem) (r : Int32 × Mem) : Prop := r.1 = a ∧ RC r.2 σ' ∧ ∀ k, 33 ≤ k → r.2 k = M k
def OM (σ' : Sg) (a : Int32) (M : Mem) (r : Int32 × Mem) : Prop := r.1 = a ∧ RM r.2 σ' ∧ ∀ k, k < 33 → r.2 k = M k
def rfs (σ : Sg) (w : Nat) : Sg := match σ with
  | (n, y, nt, tb, nc, ma, tf, tp, nf, rf) => (n, y, nt, tb, nc, ma, tf, tp, nf, upd rf w (rf w + 1))
theorem WF.rfs {σ : Sg} {w : Nat} (h : WF σ) : WF (rfs σ w) := h
theorem RC.rfs {M : Mem} {σ : Sg} {w : Nat} (h : RC M σ) (hw : w < 7) : RC (st2 M 32 w (M 32 w + 1)) (rfs σ w) := by
  obtain ⟨n, y, nt, tb, nc, ma, tf, tp, nf, rf⟩ := σ
  obtain ⟨h1, h2, h3, h4, h5, h6, h7, h8, h9, h10⟩ := h
  refine ⟨h1, h2, h3, h4, h5, h6, h7, h8, h9, fun i hi => ?_⟩
  rw [st2_s]
  by_cases e : i = w
  · subst e; rw [upd_s, upd_s, h10 i hi]
  · rw [upd_n e, upd_n e]; exact h10 i hi
theorem RM.rfs {M : Mem} {σ : Sg} {w : Nat} (h : RM M σ) (hw : w < 7) : RM (st2 M 34 w (M 34 w + 1)) (rfs σ w) := by
  obtain ⟨n, y, nt, tb, nc, ma, tf, tp, nf, rf⟩ := σ
  obtain ⟨h1, h2, h3, h4, h5, h6, h7, h8, h9, h10⟩ := h
  refine ⟨h1, h2, h3, h4, h5, h6, h7, h8, h9, fun i hi => ?_⟩
  rw [st2_s]
  by_cases e : i = w
  · subst e; rw [upd_s, upd_s, h10 i hi]
  · rw [upd_n e, upd_n e]; exact h10 i hi
/-- a refused call -/
theorem SP_refuse_wp {M M0 : Mem} {σ : Sg} (v : Int32) (w : Nat) (hv : -v = nI w) (hw : w < 7) (h : RC M σ) (hf : ∀ k, 33 ≤ k → M k = M0 k) : wp (bnd2 (SP_refuse v M) fun r M' => some (r, M')) (OC (rfs σ w) v M0) := by
  have ha : aln 32 = 7 := rfl
  unfold SP_refuse
  rw [hv, SP_at_nI (by omega) (by omega), bind_s, SP_put_nI (by omega) (by omega), bind_s, bnd2_s]
  refine wp_some ⟨rfl, h.rfs hw, fun k hk => ?_⟩
  show st2 M 32 w (M 32 w + 1) k = _
  rw [st2_n (by omega)]
  exact hf k hk
theorem MD_no_eq {M : Mem} (v : Int32) (w : Nat) (hv : -v = nI w) (hw : w < 7) : MD_no v M = some (v, st2 M 34 w (M 34 w + 1)) := by
  unfold MD_no
  rw [hv]
  simp (disch := omega) only [inb_nI, hw, if_true, nm_e', wr_nI, rd_nI]
theorem MD_no_wp {M M0 : Mem} {σ : Sg} (v : Int32) (w : Nat) (hv : -v = nI w) (hw : w < 7) (h : RM M σ) (hf : ∀ k, k < 33 → M k = M0 k) : wp (bnd2 (MD_no v M) fun r M' => some (r, M')) (OM (rfs σ w) v M0) := by
  rw [MD_no_eq v w hv hw, bnd2_s]
  refine wp_some ⟨rfl, h.rfs hw, fun k hk => ?_⟩
  show st2 M 34 w (M 34 w + 1) k = _
  rw [st2_n (by omega)]
  exact hf k hk
theorem MD_less_eq {M : Mem} (v : Int32) (w : Nat) (hv : -v = nI w) (hw : w < 7) : MD_less v M = some (1000000000 - v, st2 M 34 w (M 34 w + 1)) := by
  unfold MD_less
  rw [hv]
  simp (disch := omega) only [inb_nI, hw, if_true, nm_e', wr_nI, rd_nI]
/-! the ties of a year -/
def tab (tf : Nat → Nat → Nat) (y : Nat) : Nat → Nat → Nat
  | 0, _ => 0
  | i + 1, c => if tf i 4 ≤ y ∧ y < tf i 5 ∧ c = 49 * tf i 2 + 7 * tf i 0 + tf i 1 then tf i 3 else tab tf y i c
theorem tab_s (tf : Nat → Nat → Nat) (y i c : Nat) : tab tf y (i + 1) c = if tf i 4 ≤ y ∧ y < tf i 5 ∧ c = 49 * tf i 2 + 7 * tf i 0 + tf i 1 then tf i 3 else tab tf y i c := rfl
theorem tab_le {n : Nat} {tf : Nat → Nat → Nat} (y : Nat) : ∀ {nt : Nat}, (∀ i, i < nt → tieOk n (tf i)) → ∀ c, tab tf y nt c ≤ 9
  | 0, _, _ => Nat.zero_le _
  | i + 1, h, c => by
    rw [tab_s]
    split
    · exact (h i (by omega)).2.2.2.2.2.1
    · exact tab_le y (fun j hj => h j (by omega)) c
theorem ix_inj {a b c k x z : Nat} (hb : b < 7) (hc : c < 7) (hx : x < 7) (hz : z < 7) (e : 49 * k + 7 * x + z = 49 * a + 7 * b + c) : k = a ∧ x = b ∧ z = c := by
  have h1 : z = c := by omega
  subst h1
  have h2 : 7 * k + x = 7 * a + b := by omega
  omega
/-- no tie of one to itself, none of those that aren't there -/
theorem tab_0 {n : Nat} {tf : Nat → Nat → Nat} (y nt : Nat) (h : ∀ i, i < nt → tieOk n (tf i)) (h7 : n ≤ 7) (k x z : Nat) (hx : x < 7) (hz : z < 7) (hc : x = z ∨ n ≤ x ∨ n ≤ z) : tab tf y nt (49 * k + 7 * x + z) = 0 := by
  induction nt with
  | zero => rfl
  | succ i ih =>
    rw [tab_s]
    obtain ⟨a0, a1, a2, a3, -⟩ := h i (by omega)
    rw [if_neg]
    · exact ih (fun j hj => h j (by omega))
    · rintro ⟨-, -, e⟩
      obtain ⟨-, e1, e2⟩ := ix_inj (by omega) (by omega) hx hz e
      omega
theorem sg_d (S : Nat → Nat) (k x z : Nat) : sg S k x z = S (49 * k + 7 * x + z) := rfl
theorem sg_0 {n nt y k x z : Nat} {tf : Nat → Nat → Nat} (h : ∀ i, i < nt → tieOk n (tf i)) (h7 : n ≤ 7) (hx : x < 7) (hz : z < 7) (hc : x = z ∨ n ≤ x ∨ n ≤ z) : sg (tab tf y nt) k x z = 0 := (sg_d _ k x z).trans (tab_0 y nt h h7 k x z hx hz hc)
theorem isT_4' : isT 4 := ⟨by decide, rfl, rfl⟩
set_option maxHeartbeats 1000000 in
theorem SP_lookAt_wp {M : Mem} {n nt y : Nat} {tf : Nat → Nat → Nat} (hy : y ≤ 100) (h7 : n ≤ 7) (hnt : nt ≤ 60) (ht : ∀ i, i < nt → tieOk n (tf i)) (h4 : M 4 1 = nI nt) (h5 : ∀ i, i < nt → ∀ j, j < 6 → M 5 (i * 6 + j) = nI (tf i j)) :
    wp (SP_lookAt (nI y) M) (fun M' => Fr [3] M M' ∧ Tbl M' 3 (tab tf y nt)) := by
  have ha : aln 3 = 147 := rfl
  unfold SP_lookAt Td_draw
  refine wp_bind (P := fun M' => Fr [3] M M' ∧ Tbl M' 3 (tab tf y nt)) ?_ (fun M' h => wp_some h)
  refine wp_bind (SP_wipe_eq (by omega)) (fun M1 hM1 => ?_)
  obtain ⟨f1, a1⟩ := hM1
  refine LOOP_up (fun i (t : Mem) => (nI i, t)) nt (by omega) (fun i t => Fr [3] M t ∧ ∀ c, c < 147 → t 3 c = nI (tab tf y i c)) (fun o => wp o _) ?_ ?_ 0 M1 (by omega) ⟨f1, fun c hc => by rw [a1, if_pos (by omega)]; rfl⟩
  · rintro i t ag hi ⟨hf, g⟩ ih
    obtain ⟨b0, b1, -, b2, -, b3, b4, b5⟩ := ht i hi
    have e4 := hf 4 (by decide)
    have e5 := hf 5 (by decide)
    show wp (Td_draw_L9 (nI y) _ ag (nI i) t) _
    unfold Td_draw_L9
    have fld : ∀ j, j < 6 → Td_field 4 (nI i) (nI j) t = some (nI (tf i j)) := fun j hj => by
      rw [Td_field_nI isT_4' (by omega) hj]
      show some (t 5 (i * 6 + j)) = _
      rw [e5, h5 i hi j hj]
    have hno : ¬ (tf i 4 ≤ y ∧ y < tf i 5) → wp (ag (nI i + nI 1, t)) _ := fun hc => by
      rw [nI_add]
      refine ih t ⟨hf, fun c hc' => ?_⟩
      rw [tab_s, if_neg (fun z => hc ⟨z.1, z.2.1⟩)]
      exact g c hc'
    rw [e4, h4]
    simp (disch := omega) only [i32lit, nI_leI, show ¬ nt ≤ i by omega, if_false, fld, bind_s, nI_ltI]
    refine wp_ite (fun hc => hno (by omega)) (fun hc => ?_)
    refine wp_ite (fun hc2 => hno (by omega)) (fun hc2 => ?_)
    have ec : SP_cell (nI (tf i 2)) (nI (tf i 0)) (nI (tf i 1)) = some (nI (49 * tf i 2 + 7 * tf i 0 + tf i 1)) := by
      unfold SP_cell
      rw [show (7 : Int32) = nI 7 from rfl]
      simp only [pk_mul, nI_add]
      congr 2; omega
    rw [ec, bind_s, SP_put_nI (by omega) (by omega), bind_s, nI_add]
    refine ih _ ⟨hf.tr (Fr.st (by simp)), fun c hc' => ?_⟩
    rw [st2_s, tab_s]
    by_cases e : c = 49 * tf i 2 + 7 * tf i 0 + tf i 1
    · subst e; rw [upd_s, if_pos ⟨by omega, by omega, rfl⟩]
    · rw [upd_n e, if_neg (fun z => e z.2.2)]; exact g c hc'
  · rintro t ag ⟨hf, g⟩
    show wp (Td_draw_L9 (nI y) _ ag (nI nt) t) _
    unfold Td_draw_L9
    rw [hf 4 (by decide), h4]
    simp (disch := omega) only [nI_leI, Nat.le_refl, if_true]
    exact wp_some ⟨hf, fun c hc => ⟨g c hc, tab_le y ht c⟩⟩
set_option maxHeartbeats 1000000 in
theorem MD_findTies_wp {M : Mem} {n nt y : Nat} {tf : Nat → Nat → Nat} (hy : y ≤ 100) (h7 : n ≤ 7) (hnt : nt ≤ 60) (ht : ∀ i, i < nt → tieOk n (tf i)) (h4 : M 33 9 = nI nt) (h5 : ∀ i, i < nt → M 36 i = nI (tf i 0) ∧ M 37 i = nI (tf i 1) ∧ M 38 i = nI (tf i 2) ∧ M 39 i = nI (tf i 3) ∧ M 40 i = nI (tf i 4) ∧ M 41 i = nI (tf i 5)) :
    wp (MD_findTies (nI y) M) (fun M' => Fr [49] M M' ∧ Tbl M' 49 (tab tf y nt)) := by
  unfold MD_findTies
  refine LOOP_up (fun i (t : Mem) => (nI i, t)) 147 (by omega) (fun i t => Fr [49] M t ∧ ∀ c, c < i → t 49 c = 0) (fun o => wp o _) ?_ ?_ 0 M (by omega) ⟨Fr.rf, fun c hc => by omega⟩
  · rintro i t ag hi ⟨hf, g⟩ ih
    show wp (MD_findTies_L2 _ ag (nI i) t) _
    unfold MD_findTies_L2
    rw [show (147 : Int32) = nI 147 from rfl]
    simp (disch := omega) only [nI_leI, show ¬ 147 ≤ i by omega, if_false, inb_nI, hi, if_true, wr_nI, nm_e']
    rw [show (1 : Int32) = nI 1 from rfl, nI_add]
    refine ih _ ⟨hf.tr (Fr.st (by simp)), fun c hc => ?_⟩
    rw [st2_s]
    by_cases e : c = i
    · subst e; rw [upd_s]
    · rw [upd_n e]; exact g c (by omega)
  · rintro t0 ag0 ⟨hf0, g0⟩
    show wp (MD_findTies_L2 _ ag0 (nI 147) t0) _
    unfold MD_findTies_L2
    rw [show (147 : Int32) = nI 147 from rfl]
    simp (disch := omega) only [nI_leI, Nat.le_refl, if_true]
    refine LOOP_up (fun i (t : Mem) => (nI i, t)) nt (by omega) (fun i t => Fr [49] M t ∧ ∀ c, c < 147 → t 49 c = nI (tab tf y i c)) (fun o => wp o _) ?_ ?_ 0 t0 (by omega) ⟨hf0, fun c hc => by rw [g0 c hc]; rfl⟩
    · rintro i t ag hi ⟨hf, g⟩ ih
      obtain ⟨b0, b1, -, b2, -, b3, b4, b5⟩ := ht i hi
      obtain ⟨c0, c1, c2, c3, c4, c5⟩ := h5 i hi
      show wp (MD_findTies_L24 (nI y) _ ag (nI i) t) _
      unfold MD_findTies_L24
      have hno : ¬ (tf i 4 ≤ y ∧ y < tf i 5) → wp (ag (nI i + 1, t)) _ := fun hc => by
        rw [show (1 : Int32) = nI 1 from rfl, nI_add]
        refine ih t ⟨hf, fun c hc' => ?_⟩
        rw [tab_s, if_neg (fun z => hc ⟨z.1, z.2.1⟩)]
        exact g c hc'
      have ec : ((49 * nI (tf i 2)) + (7 * nI (tf i 0))) + nI (tf i 1) = nI (49 * tf i 2 + 7 * tf i 0 + tf i 1) := by
        rw [show (49 : Int32) = nI 49 from rfl, show (7 : Int32) = nI 7 from rfl]
        simp only [pk_mul, nI_add]
      simp (disch := omega) only [hf 33 (by decide), hf 36 (by decide), hf 37 (by decide), hf 38 (by decide), hf 39 (by decide), hf 40 (by decide), hf 41 (by decide), h4, nI_leI, show ¬ nt ≤ i by omega, if_false, inb_nI, show i < 60 by omega, if_true, rd_nI, c0, c1, c2, c3, c4, c5, nI_ltI, ec, wr_nI, show 49 * tf i 2 + 7 * tf i 0 + tf i 1 < 147 by omega, nm_e']
      refine wp_ite (fun hc => hno (by omega)) (fun hc => ?_)
      refine wp_ite (fun hc2 => hno (by omega)) (fun hc2 => ?_)
      rw [show (1 : Int32) = nI 1 from rfl, nI_add]
      refine ih _ ⟨hf.tr (Fr.st (by simp)), fun c hc' => ?_⟩
      rw [st2_s, tab_s]
      by_cases e : c = 49 * tf i 2 + 7 * tf i 0 + tf i 1
      · subst e; rw [upd_s, if_pos ⟨by omega, by omega, rfl⟩]
      · rw [upd_n e, if_neg (fun z => e z.2.2)]; exact g c hc'
    · rintro t ag ⟨hf, g⟩
      show wp (MD_findTies_L24 (nI y) _ ag (nI nt) t) _
      unfold MD_findTies_L24
      rw [hf 33 (by decide), h4]
      simp (disch := omega) only [nI_leI, Nat.le_refl, if_true]
      exact wp_some ⟨hf, fun c hc => ⟨g c hc, tab_le y ht c⟩⟩
