/-! by hand: persons, mark, year, tie, degree, parting, newcomer, gone: both sides -/
abbrev Ans := Sg × Int32
def EC (p : Ans) (M : Mem) : Int32 × Mem → Prop := OC p.1 p.2 M
def EM (p : Ans) (M : Mem) : Int32 × Mem → Prop := OM p.1 p.2 M
def no (σ : Sg) (w : Nat) : Ans := (rfs σ w, -(nI w))
theorem SP_no {M M0 : Mem} {σ : Sg} (w : Nat) (v : Int32) (hv : v = -(nI w)) (hw : w < 7) (hm : -(-(nI w)) = nI w) (h : RC M σ) (hf : ∀ k, 33 ≤ k → M k = M0 k) : wp (bnd2 (SP_refuse v M) fun r M' => some (r, M')) (EC (no σ w) M0) := by
  subst hv
  exact SP_refuse_wp _ w hm hw h hf
theorem MD_no' {M M0 : Mem} {σ : Sg} (w : Nat) (v : Int32) (hv : v = -(nI w)) (hw : w < 7) (hm : -(-(nI w)) = nI w) (h : RM M σ) (hf : ∀ k, k < 33 → M k = M0 k) : wp (bnd2 (MD_no v M) fun r M' => some (r, M')) (EM (no σ w) M0) := by
  subst hv
  exact MD_no_wp _ w hm hw h hf
theorem SP_no1 {M M0 : Mem} {σ : Sg} (h : RC M σ) (hf : ∀ k, 33 ≤ k → M k = M0 k) : wp (bnd2 (SP_refuse (-1) M) fun r M' => some (r, M')) (EC (no σ 1) M0) := SP_no 1 _ rfl (by omega) rfl h hf
theorem SP_no4 {M M0 : Mem} {σ : Sg} (h : RC M σ) (hf : ∀ k, 33 ≤ k → M k = M0 k) : wp (bnd2 (SP_refuse (-4) M) fun r M' => some (r, M')) (EC (no σ 4) M0) := SP_no 4 _ rfl (by omega) rfl h hf
theorem SP_no6 {M M0 : Mem} {σ : Sg} (h : RC M σ) (hf : ∀ k, 33 ≤ k → M k = M0 k) : wp (bnd2 (SP_refuse (-6) M) fun r M' => some (r, M')) (EC (no σ 6) M0) := SP_no 6 _ rfl (by omega) rfl h hf
theorem SP_no2 {M M0 : Mem} {σ : Sg} (h : RC M σ) (hf : ∀ k, 33 ≤ k → M k = M0 k) : wp (bnd2 (SP_refuse (-2) M) fun r M' => some (r, M')) (EC (no σ 2) M0) := SP_no 2 _ rfl (by omega) rfl h hf
theorem MD_no1 {M M0 : Mem} {σ : Sg} (h : RM M σ) (hf : ∀ k, k < 33 → M k = M0 k) : wp (bnd2 (MD_no (-1) M) fun r M' => some (r, M')) (EM (no σ 1) M0) := MD_no' 1 _ rfl (by omega) rfl h hf
theorem MD_no4 {M M0 : Mem} {σ : Sg} (h : RM M σ) (hf : ∀ k, k < 33 → M k = M0 k) : wp (bnd2 (MD_no (-4) M) fun r M' => some (r, M')) (EM (no σ 4) M0) := MD_no' 4 _ rfl (by omega) rfl h hf
theorem MD_no6 {M M0 : Mem} {σ : Sg} (h : RM M σ) (hf : ∀ k, k < 33 → M k = M0 k) : wp (bnd2 (MD_no (-6) M) fun r M' => some (r, M')) (EM (no σ 6) M0) := MD_no' 6 _ rfl (by omega) rfl h hf
theorem MD_no2 {M M0 : Mem} {σ : Sg} (h : RM M σ) (hf : ∀ k, k < 33 → M k = M0 k) : wp (bnd2 (MD_no (-2) M) fun r M' => some (r, M')) (EM (no σ 2) M0) := MD_no' 2 _ rfl (by omega) rfl h hf
theorem rfl_hi {M : Mem} : ∀ k, 33 ≤ k → M k = M k := fun _ _ => rfl
theorem rfl_lo {M : Mem} : ∀ k, k < 33 → M k = M k := fun _ _ => rfl
/-- a bound: 4 below, 6 above, 0 in -/
def oB (v : Int32) (lo hi : Nat) : Nat := if v.toInt < (lo : Int) then 4 else if (hi : Int) < v.toInt then 6 else 0
theorem oB_0 {v : Int32} {lo hi : Nat} (hh : hi < 2 ^ 31) (h : oB v lo hi = 0) : ∃ j, lo ≤ j ∧ j ≤ hi ∧ v = nI j := by
  unfold oB at h
  split at h
  · cases h
  · split at h
    · cases h
    · refine ⟨v.toInt.toNat, by omega, by omega, ?_⟩
      rw [i_eq, nI_toInt (by omega)]
      omega
theorem oB_v (v : Int32) (lo hi : Nat) : oB v lo hi = 4 ∨ oB v lo hi = 6 ∨ oB v lo hi = 0 := by
  unfold oB
  split
  · exact Or.inl rfl
  · split
    · exact Or.inr (Or.inl rfl)
    · exact Or.inr (Or.inr rfl)
/-- the class asks lo ≤ v, then v ≤ hi -/
theorem bnd {β : Type} {v : Int32} {lo hi : Nat} (hlo : lo < 2 ^ 31) (hhi : hi < 2 ^ 31) {a b c : Option β} : (if nI lo ≤ v then if v ≤ nI hi then a else b else c) = if oB v lo hi = 4 then c else if oB v lo hi = 6 then b else a := by
  unfold oB
  simp only [i_le, nI_toInt hlo, nI_toInt hhi]
  by_cases h1 : (lo : Int) ≤ v.toInt
  · by_cases h2 : v.toInt ≤ (hi : Int)
    · simp only [h1, h2, if_true, show ¬ v.toInt < (lo : Int) by omega, show ¬ (hi : Int) < v.toInt by omega, if_false]
      simp
    · simp only [h1, h2, if_true, show ¬ v.toInt < (lo : Int) by omega, show (hi : Int) < v.toInt by omega, if_false]
      simp
  · simp only [h1, show v.toInt < (lo : Int) by omega, if_true, if_false]
theorem MD_out_oB {v : Int32} {a b : Int64} {lo hi : Nat} (ha : a.toInt = lo) (hb : b.toInt = hi) : MD_out v.toInt64 a b = some (-(nI (oB v lo hi))) := by
  rw [MD_out_eq, ha, hb]
  unfold oB
  split
  · rfl
  · split <;> rfl
theorem neg_0 : (-(nI 0) = 0) ↔ True := by decide
theorem neg_4 : (-(nI 4) = 0) ↔ False := by decide
theorem neg_6 : (-(nI 6) = 0) ↔ False := by decide
/-! 2 persons -/
def R_persons (σ : Sg) (v : Int32) : Ans := match σ with
  | (n, y, nt, tb, nc, ma, tf, tp, nf, rf) => if oB v 1 7 = 4 then no σ 4 else if oB v 1 7 = 6 then no σ 6 else ((v.toInt.toNat, y, 0, tb, 0, fun _ => 0, tf, tp, nf, rf), nI n)
theorem SP_persons_wp {σ : Sg} {M : Mem} (v : Int32) (h : RC M σ) : wp (SP_persons v M) (EC (R_persons σ v) M) := by
  obtain ⟨n, y, nt, tb, nc, ma, tf, tp, nf, rf⟩ := σ
  unfold SP_persons
  show wp (if nI 1 ≤ v then if v ≤ nI 7 then _ else _ else _) _
  rw [bnd (by omega) (by omega)]
  unfold R_persons
  dsimp only
  rcases oB_v v 1 7 with e | e | e <;> rw [e] <;> simp only [if_true, if_false, show ¬ (6 = 4) by decide, show ¬ (0 = 4) by decide, show ¬ (0 = 6) by decide]
  · exact SP_no4 h rfl_hi
  · exact SP_no6 h rfl_hi
  · obtain ⟨m, h1, h2, rfl⟩ := oB_0 (by omega) e
    obtain ⟨a1, a2, a3, a4, a5, a6, a7, a8, a9, a10⟩ := h
    have ha : aln 2 = 7 := rfl
    unfold To_settle Td_drain
    simp only [nm_e']
    refine wp_bind (wp_bind (SP_wipe_eq (by omega)) (fun M2 hM2 => wp_some hM2)) (fun M2 hM2 => ?_)
    obtain ⟨f2, g2⟩ := hM2
    rw [bind_s, nI_toInt (by omega)]
    have e1 := f2 1 (by decide)
    refine wp_some ⟨a1, ⟨?_, ?_, ?_, ?_, ?_, ?_, ?_, ?_, ?_, ?_⟩, fun k hk => ?_⟩
    · show st2 (st2 M2 4 1 0) 10 3 0 1 2 = _
      rw [st2_n (by decide), st2_n (by decide), e1, st2_s, upd_s]; rfl
    · show st2 (st2 M2 4 1 0) 10 3 0 0 12 = _
      rw [st2_n (by decide), st2_n (by decide), f2 0 (by decide), st2_n (by decide)]; exact a2
    · show st2 (st2 M2 4 1 0) 10 3 0 4 1 = _
      rw [st2_n (by decide), st2_s, upd_s]; rfl
    · show st2 (st2 M2 4 1 0) 10 3 0 6 2 = _
      rw [st2_n (by decide), st2_n (by decide), f2 6 (by decide), st2_n (by decide)]; exact a4
    · show st2 (st2 M2 4 1 0) 10 3 0 10 3 = _
      rw [st2_s, upd_s]; rfl
    · intro j hj
      show st2 (st2 M2 4 1 0) 10 3 0 2 j = _
      rw [st2_n (by decide), st2_n (by decide), g2, if_pos (by omega)]; rfl
    · intro i hi; omega
    · intro i hi
      show st2 (st2 M2 4 1 0) 10 3 0 7 i = _
      rw [st2_n (by decide), st2_n (by decide), f2 7 (by decide), st2_n (by decide)]; exact a8 i hi
    · intro i hi; omega
    · intro i hi
      show st2 (st2 M2 4 1 0) 10 3 0 32 i = _
      rw [st2_n (by decide), st2_n (by decide), f2 32 (by decide), st2_n (by decide)]; exact a10 i hi
    · show st2 (st2 M2 4 1 0) 10 3 0 k = _
      rw [st2_n (by omega), st2_n (by omega), f2 k (by simp; omega), st2_n (by omega)]
theorem MD_persons_wp {σ : Sg} {M : Mem} (v : Int32) (h : RM M σ) : wp (MD_persons v M) (EM (R_persons σ v) M) := by
  obtain ⟨n, y, nt, tb, nc, ma, tf, tp, nf, rf⟩ := σ
  unfold MD_persons
  rw [MD_out_oB (lo := 1) (hi := 7) rfl rfl, bind_s]
  unfold R_persons
  dsimp only
  rcases oB_v v 1 7 with e | e | e <;> rw [e] <;> simp only [if_true, if_false, show ¬ (6 = 4) by decide, show ¬ (0 = 4) by decide, show ¬ (0 = 6) by decide, neg_0, neg_4, neg_6]
  · exact MD_no4 h rfl_lo
  · exact MD_no6 h rfl_lo
  · obtain ⟨m, h1, h2, rfl⟩ := oB_0 (by omega) e
    obtain ⟨a1, a2, a3, a4, a5, a6, a7, a8, a9, a10⟩ := h
    rw [nm_e', nm_e', nm_e', nm_e', nI_toInt (by omega)]
    refine LOOP_up (fun x (t : Mem) => (nI x, t)) 7 (by omega) (fun x t => Fr [35] (st2 (st2 (st2 M 33 8 (nI m)) 33 9 0) 33 33 0) t ∧ ∀ j, j < x → t 35 j = 0) (fun o => wp o _) ?_ ?_ 0 _ (by omega) ⟨Fr.rf, fun j hj => by omega⟩
    · rintro x t ag hx ⟨hf, g⟩ ih
      show wp (MD_persons_L43 _ ag (nI x) t) _
      unfold MD_persons_L43
      rw [show (7 : Int32) = nI 7 from rfl]
      simp (disch := omega) only [nI_leI, show ¬ 7 ≤ x by omega, if_false, inb_nI, hx, if_true, wr_nI, nm_e']
      rw [show (1 : Int32) = nI 1 from rfl, nI_add]
      refine ih _ ⟨hf.tr (Fr.st (by simp)), fun j hj => ?_⟩
      rw [st2_s]
      by_cases e : j = x
      · subst e; rw [upd_s]
      · rw [upd_n e]; exact g j (by omega)
    · rintro t ag ⟨hf, g⟩
      show wp (MD_persons_L43 _ ag (nI 7) t) _
      unfold MD_persons_L43
      rw [show (7 : Int32) = nI 7 from rfl]
      simp (disch := omega) only [nI_leI, Nat.le_refl, if_true]
      have e33 := hf 33 (by decide)
      have eo : ∀ k, k ≠ 33 → k ≠ 35 → t k = M k := fun k hk hk2 => by
        rw [hf k (by simp [hk2]), st2_n hk, st2_n hk, st2_n hk]
      have es : ∀ j, j ≠ 8 → j ≠ 9 → j ≠ 33 → t 33 j = M 33 j := fun j k1 k2 k3 => by
        rw [e33, st2_s, upd_n k3, st2_s, upd_n k2, st2_s, upd_n k1]
      refine wp_some ⟨a1, ⟨?_, ?_, ?_, ?_, ?_, ?_, ?_, ?_, ?_, ?_⟩, fun k hk => eo k (by omega) (by omega)⟩
      · show t 33 8 = _
        rw [e33, st2_s, upd_n (by decide), st2_s, upd_n (by decide), st2_s, upd_s]; rfl
      · show t 33 10 = _
        rw [es 10 (by decide) (by decide) (by decide)]; exact a2
      · show t 33 9 = _
        rw [e33, st2_s, upd_n (by decide), st2_s, upd_s]; rfl
      · show t 33 12 = _
        rw [es 12 (by decide) (by decide) (by decide)]; exact a4
      · show t 33 33 = _
        rw [e33, st2_s, upd_s]; rfl
      · intro j hj
        show t 35 j = _
        rw [g j hj]; rfl
      · intro i hi; omega
      · intro i hi
        show t 42 i = _
        rw [eo 42 (by decide) (by decide)]; exact a8 i hi
      · intro i hi; omega
      · intro i hi
        show t 34 i = _
        rw [eo 34 (by decide) (by decide)]; exact a10 i hi
/-! 3 mark -/
def R_mark (σ : Sg) (p v : Int32) : Ans := match σ with
  | (n, y, nt, tb, nc, ma, tf, tp, nf, rf) => if inrB p n = true then (if oB v 0 3 = 4 then no σ 4 else if oB v 0 3 = 6 then no σ 6 else ((n, y, nt, tb, nc, (fun x => if x = p.toInt.toNat then v.toInt.toNat else ma x), tf, tp, nf, rf), nI (ma p.toInt.toNat))) else no σ 1
theorem SP_mark_wp {σ : Sg} {M : Mem} (p v : Int32) (hw : WF σ) (h : RC M σ) : wp (SP_mark p v M) (EC (R_mark σ p v) M) := by
  obtain ⟨n, y, nt, tb, nc, ma, tf, tp, nf, rf⟩ := σ
  obtain ⟨w1, w2, w3, w4, w5, w6, w7, w8, w9, w10⟩ := hw
  obtain ⟨a1, a2, a3, a4, a5, a6, a7, a8, a9, a10⟩ := id h
  unfold SP_mark R_mark
  dsimp only
  rw [To_lives_eq a1 w2, bind_s]
  simp only [cI_0]
  by_cases hp : inrB p n = true
  · simp only [hp, not_true_eq_false, if_false, if_true]
    show wp (if nI 0 ≤ v then if v ≤ nI 3 then _ else _ else _) _
    rw [bnd (by omega) (by omega)]
    rcases oB_v v 0 3 with e | e | e <;> rw [e] <;> simp only [if_true, if_false, show ¬ (6 = 4) by decide, show ¬ (0 = 4) by decide, show ¬ (0 = 6) by decide]
    · exact SP_no4 h rfl_hi
    · exact SP_no6 h rfl_hi
    · obtain ⟨m, h1, h2, rfl⟩ := oB_0 (by omega) e
      obtain ⟨j, hj, rfl⟩ := inr_of (inrB_iff.mp hp) (by omega)
      have ha : aln 2 = 7 := rfl
      rw [SP_at_nI (by omega) (by omega), bind_s, SP_put_nI (by omega) (by omega), bind_s, nI_toInt (by omega), nI_toInt (by omega)]
      refine wp_some ⟨a6 j (by omega), ⟨a1, a2, a3, a4, a5, fun i hi => ?_, a7, a8, a9, a10⟩, fun k hk => ?_⟩
      · show st2 M 2 j (nI m) 2 i = nI (if i = j then m else ma i)
        rw [st2_s]
        by_cases e : i = j
        · subst e; rw [upd_s, if_pos rfl]
        · rw [upd_n e, if_neg e]; exact a6 i hi
      · show st2 M 2 j (nI m) k = _
        rw [st2_n (by omega)]
  · simp only [hp, not_false_eq_true, if_true]
    exact SP_no1 h rfl_hi
theorem MD_mark_wp {σ : Sg} {M : Mem} (p v : Int32) (hw : WF σ) (h : RM M σ) : wp (MD_mark p v M) (EM (R_mark σ p v) M) := by
  obtain ⟨n, y, nt, tb, nc, ma, tf, tp, nf, rf⟩ := σ
  obtain ⟨w1, w2, w3, w4, w5, w6, w7, w8, w9, w10⟩ := hw
  obtain ⟨a1, a2, a3, a4, a5, a6, a7, a8, a9, a10⟩ := id h
  unfold MD_mark R_mark
  dsimp only
  rw [MD_isPerson_eq a1 w2, bind_s, MD_out_oB (lo := 0) (hi := 3) rfl rfl]
  simp only [cI_0]
  by_cases hp : inrB p n = true
  · simp only [hp, not_true_eq_false, if_false, if_true, bind_s]
    rcases oB_v v 0 3 with e | e | e <;> rw [e] <;> simp only [if_true, if_false, show ¬ (6 = 4) by decide, show ¬ (0 = 4) by decide, show ¬ (0 = 6) by decide, neg_0, neg_4, neg_6]
    · exact MD_no4 h rfl_lo
    · exact MD_no6 h rfl_lo
    · obtain ⟨m, h1, h2, rfl⟩ := oB_0 (by omega) e
      obtain ⟨j, hj, rfl⟩ := inr_of (inrB_iff.mp hp) (by omega)
      simp (disch := omega) only [inb_nI, show j < 7 by omega, if_true, nm_e', rd_nI, wr_nI, nI_toInt]
      refine wp_some ⟨a6 j (by omega), ⟨a1, a2, a3, a4, a5, fun i hi => ?_, a7, a8, a9, a10⟩, fun k hk => ?_⟩
      · show st2 M 35 j (nI m) 35 i = nI (if i = j then m else ma i)
        rw [st2_s]
        by_cases e : i = j
        · subst e; rw [upd_s, if_pos rfl]
        · rw [upd_n e, if_neg e]; exact a6 i hi
      · show st2 M 35 j (nI m) k = _
        rw [st2_n (by omega)]
  · simp only [hp, not_false_eq_true, if_true]
    exact MD_no1 h rfl_lo
/-! 4 year -/
def R_year (σ : Sg) (v : Int32) : Ans := match σ with
  | (n, y, nt, tb, nc, ma, tf, tp, nf, rf) => if oB v 0 100 = 4 then no σ 4 else if oB v 0 100 = 6 then no σ 6 else ((n, v.toInt.toNat, nt, tb, nc, ma, tf, tp, nf, rf), nI y)
theorem SP_year_wp {σ : Sg} {M : Mem} (v : Int32) (h : RC M σ) : wp (SP_year v M) (EC (R_year σ v) M) := by
  obtain ⟨n, y, nt, tb, nc, ma, tf, tp, nf, rf⟩ := σ
  obtain ⟨a1, a2, a3, a4, a5, a6, a7, a8, a9, a10⟩ := id h
  unfold SP_year R_year
  dsimp only
  show wp (if nI 0 ≤ v then if v ≤ nI 100 then _ else _ else _) _
  rw [bnd (by omega) (by omega)]
  rcases oB_v v 0 100 with e | e | e <;> rw [e] <;> simp only [if_true, if_false, show ¬ (6 = 4) by decide, show ¬ (0 = 4) by decide, show ¬ (0 = 6) by decide]
  · exact SP_no4 h rfl_hi
  · exact SP_no6 h rfl_hi
  · obtain ⟨m, h1, h2, rfl⟩ := oB_0 (by omega) e
    rw [nm_e', nm_e', nI_toInt (by omega)]
    refine wp_some ⟨a2, ⟨a1, ?_, a3, a4, a5, a6, a7, a8, a9, a10⟩, fun k hk => ?_⟩
    · show st2 M 0 12 (nI m) 0 12 = _
      rw [st2_s, upd_s]; rfl
    · show st2 M 0 12 (nI m) k = _
      rw [st2_n (by omega)]
theorem MD_year_wp {σ : Sg} {M : Mem} (v : Int32) (h : RM M σ) : wp (MD_year v M) (EM (R_year σ v) M) := by
  obtain ⟨n, y, nt, tb, nc, ma, tf, tp, nf, rf⟩ := σ
  obtain ⟨a1, a2, a3, a4, a5, a6, a7, a8, a9, a10⟩ := id h
  unfold MD_year R_year
  dsimp only
  rw [MD_out_oB (lo := 0) (hi := 100) rfl rfl, bind_s]
  rcases oB_v v 0 100 with e | e | e <;> rw [e] <;> simp only [if_true, if_false, show ¬ (6 = 4) by decide, show ¬ (0 = 4) by decide, show ¬ (0 = 6) by decide, neg_0, neg_4, neg_6]
  · exact MD_no4 h rfl_lo
  · exact MD_no6 h rfl_lo
  · obtain ⟨m, h1, h2, rfl⟩ := oB_0 (by omega) e
    rw [nm_e', nm_e', nI_toInt (by omega)]
    have es : ∀ j, j ≠ 10 → st2 M 33 10 (nI m) 33 j = M 33 j := fun j hj => by rw [st2_s, upd_n hj]
    refine wp_some ⟨a2, ⟨(es 8 (by decide)).trans a1, ?_, (es 9 (by decide)).trans a3, (es 12 (by decide)).trans a4, (es 33 (by decide)).trans a5, a6, a7, a8, a9, a10⟩, fun k hk => ?_⟩
    · show st2 M 33 10 (nI m) 33 10 = _
      rw [st2_s, upd_s]; rfl
    · show st2 M 33 10 (nI m) k = _
      rw [st2_n (by omega)]
/-! 27 gone -/
def R_gone (σ : Sg) : Ans := match σ with
  | (n, y, nt, tb, nc, ma, tf, tp, nf, rf) => ((n, y, nt, tb, 0, ma, tf, tp, nf, rf), nI nc)
theorem SP_gone_wp {σ : Sg} {M : Mem} (h : RC M σ) : wp (SP_gone M) (EC (R_gone σ) M) := by
  obtain ⟨n, y, nt, tb, nc, ma, tf, tp, nf, rf⟩ := σ
  obtain ⟨a1, a2, a3, a4, a5, a6, a7, a8, a9, a10⟩ := id h
  unfold SP_gone R_gone
  rw [nm_e', nm_e']
  refine wp_some ⟨a5, ⟨a1, a2, a3, a4, ?_, a6, a7, a8, fun i hi => by omega, a10⟩, fun k hk => ?_⟩
  · show st2 M 10 3 0 10 3 = _
    rw [st2_s, upd_s]; rfl
  · show st2 M 10 3 0 k = _
    rw [st2_n (by omega)]
theorem MD_gone_wp {σ : Sg} {M : Mem} (h : RM M σ) : wp (MD_gone M) (EM (R_gone σ) M) := by
  obtain ⟨n, y, nt, tb, nc, ma, tf, tp, nf, rf⟩ := σ
  obtain ⟨a1, a2, a3, a4, a5, a6, a7, a8, a9, a10⟩ := id h
  unfold MD_gone R_gone
  rw [nm_e', nm_e']
  have es : ∀ j, j ≠ 33 → st2 M 33 33 0 33 j = M 33 j := fun j hj => by rw [st2_s, upd_n hj]
  refine wp_some ⟨a5, ⟨(es 8 (by decide)).trans a1, (es 10 (by decide)).trans a2, (es 9 (by decide)).trans a3, (es 12 (by decide)).trans a4, ?_, a6, a7, a8, fun i hi => by omega, a10⟩, fun k hk => ?_⟩
  · show st2 M 33 33 0 33 33 = _
    rw [st2_s, upd_s]; rfl
  · show st2 M 33 33 0 k = _
    rw [st2_n (by omega)]
