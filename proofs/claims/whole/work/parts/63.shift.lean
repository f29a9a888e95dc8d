/-! by hand: shift: both sides -/
theorem wh_eq : ∀ k, k < 8 → ((1 : Int32) <<< (nI k &&& 31)) - 1 = nI (2 ^ k - 1) := by decide +kernel
theorem al24 : aln 24 = 49 := rfl
theorem al25 : aln 25 = 128 := rfl
theorem clr_lt : ∀ u, u < 128 → ∀ p, p < 7 → u.testBit p = true → clr u p < u := by decide +kernel
theorem Ma_bestFor_eq {M : Mem} {n k p S : Nat} {p1 p2 D : Nat → Nat} (h7 : n ≤ 7) (hk : k ≤ n) (hp : p < n) (hS : S < 128) (hD : ∀ T, T ≤ S → M 25 T = nI (D T) ∧ D T ≤ 7) (hsh : ∀ q, q < n → M 24 (p * 7 + q) = nI (shN n p1 p2 p q)) : Ma_bestFor (nI p) (nI S) (nI k) M = some (nI (bfF n p1 p2 D p S k)) := by
  have ha4 := al24
  have ha5 := al25
  have hb : ∀ q, q ≤ k → bfF n p1 p2 D p S q ≤ 100 := fun q hq => by
    rcases bfF_is (n := n) (p1 := p1) (p2 := p2) (D := D) (p := p) (S := S) q with h | ⟨r, h1, h2, h3⟩
    · have := (hD S (Nat.le_refl _)).2; omega
    · have h4 := clr_lt S hS r (by omega) h2
      have h5 := (hD (clr S r) (by omega)).2
      have h6 : shN n p1 p2 p r ≤ n * 1 := sm_le (fun x _ => by split <;> omega)
      omega
  unfold Ma_bestFor
  rw [SP_at_nI (by omega) (by omega), bind_s, (hD S (Nat.le_refl _)).1]
  refine LOOP_fun (fun q => (nI (bfF n p1 p2 D p S q), nI q)) k (by omega) (fun _ => some (nI (bfF n p1 p2 D p S k))) ?_ ?_ 0 (Nat.zero_le _)
  · intro q ag hq ih
    show Ma_bestFor_L13 (nI p) (nI S) (nI k) M _ ag _ (nI q) = _
    unfold Ma_bestFor_L13
    have e := bfF_s n p1 p2 D p S q
    rw [if_neg (by rw [nI_leI (by omega) (by omega)]; omega), SP_holds_eq S hS q (by omega), bind_s]
    by_cases c : S.testBit q = true
    · have h4 := clr_lt S hS q (by omega) c
      have h5 := (hD (clr S q) (by omega)).2
      have h6 : shN n p1 p2 p q ≤ n * 1 := sm_le (fun x _ => by split <;> omega)
      have h7' := hb q (by omega)
      rw [if_neg (by rw [cI_0]; exact not_not_intro c), (mk_clr S hS q (by omega)).1, SP_at_nI (by omega) (by omega), bind_s, (hD (clr S q) (by omega)).1, show (7 : Int32) = nI 7 from rfl, pk_mul, nI_add, SP_at_nI (by omega) (by omega), bind_s, hsh q (by omega), nI_add, nm_e', jmax_nI (by omega) (by omega), nI_1, ← ih, e, if_pos c]
    · rw [if_pos (by rw [cI_0]; exact c), nI_1, ← ih, e, if_neg c]
  · intro ag
    show Ma_bestFor_L13 (nI p) (nI S) (nI k) M _ ag _ (nI k) = _
    unfold Ma_bestFor_L13
    rw [if_pos (by rw [nI_leI (by omega) (by omega)]; omega)]
set_option maxHeartbeats 1000000 in
theorem Ma_keepers_wp {M : Mem} {n : Nat} {p1 p2 : Nat → Nat} (h1n : 1 ≤ n) (h7 : n ≤ 7) (h1 : PT M 26 n p1) (h2 : PT M 28 n p2) (r1 : RGS n p1) (r2 : RGS n p2) : wp (Ma_keepers M) (fun r => Fr [24, 25] M r.2 ∧ r.1 = nI (kpM n p1 p2)) := by
  have ha4 := al24
  have ha5 := al25
  obtain ⟨k1, hk1⟩ : ∃ k1, k1 = top p1 n := ⟨_, rfl⟩
  obtain ⟨k2, hk2⟩ : ∃ k2, k2 = top p2 n := ⟨_, rfl⟩
  have t1 : k1 ≤ n := by rw [hk1]; exact r1.le n (Nat.le_refl _)
  have t2 : k2 ≤ n := by rw [hk2]; exact r2.le n (Nat.le_refl _)
  have q1 : ∀ x, x < n → p1 x < k1 := fun x hx => by rw [hk1]; exact top_gt hx
  have q2 : ∀ x, x < n → p2 x < k2 := fun x hx => by rw [hk2]; exact top_gt hx
  have hW : 2 ^ k2 - 1 < 128 := by
    have : 2 ^ k2 ≤ 2 ^ 7 := Nat.pow_le_pow_right (by omega) (by omega)
    omega
  rw [keep_ok h1n h7 q1 q2 t1 t2]
  unfold Ma_keepers
  refine wp_bind (SP_wipe_eq (by omega)) (fun M1 hM1 => ?_)
  obtain ⟨f1, g1⟩ := hM1
  refine LOOP_up (fun x (t : Mem) => (nI x, t)) n (by omega) (fun x t => Fr [24] M t ∧ ∀ p q, p < 7 → q < 7 → t 24 (p * 7 + q) = nI (sm x (fun u => if p1 u = p ∧ p2 u = q then 1 else 0))) (fun o => wp o _) ?_ ?_ 0 M1 (by omega) ⟨f1, fun p q hp hq => by rw [g1, if_pos (by omega)]; rfl⟩
  · rintro x t ag hx ⟨hf, g⟩ ih
    show wp (Ma_keepers_L9 _ ag (nI x) t) _
    unfold Ma_keepers_L9
    have b1 := q1 x hx
    have b2 := q2 x hx
    rw [show t 26 1 = nI n from (congrFun (hf 26 (by decide)) 1).trans h1.1, if_neg (by rw [nI_leI (by omega) (by omega)]; omega), Pa_of_nI isP_26 (by omega), bind_s, Pa_of_nI isP_28 (by omega), bind_s, hf 27 (by decide), hf 29 (by decide), h1.2.2 x hx, h2.2.2 x hx, show (7 : Int32) = nI 7 from rfl, pk_mul, nI_add, SP_addTo_nI (by omega) (by omega), bind_s, nI_1]
    refine ih _ ⟨hf.tr (Fr.st (by simp)), fun p q hp hq => ?_⟩
    rw [st2_s, sm_s]
    by_cases c : p * 7 + q = p1 x * 7 + p2 x
    · have c1 : p1 x = p := by omega
      have c2 : p2 x = q := by omega
      rw [c, upd_s, if_pos ⟨c1, c2⟩, g _ _ (by omega) (by omega), nI_1, c1, c2]
    · rw [upd_n c, if_neg (fun z => c (by rw [z.1, z.2])), Nat.add_zero]; exact g p q hp hq
  rintro t ag ⟨hf, g⟩
  show wp (Ma_keepers_L9 _ ag (nI n) t) _
  unfold Ma_keepers_L9
  rw [show t 26 1 = nI n from (congrFun (hf 26 (by decide)) 1).trans h1.1, if_pos (by rw [nI_leI (by omega) (by omega)]; omega)]
  refine wp_bind (SP_wipe_eq (by omega)) (fun M5 hM5 => ?_)
  obtain ⟨f5, g5⟩ := hM5
  rw [show M5 28 2 = nI k2 from by rw [f5 28 (by decide), hf 28 (by decide), hk2]; exact h2.2.1, wh_eq k2 (by omega), nm_e']
  have hall : ∀ t, Fr [25] M5 t → t 26 2 = nI k1 ∧ t 28 2 = nI k2 ∧ ∀ p q, p < 7 → q < 7 → t 24 (p * 7 + q) = nI (shN n p1 p2 p q) := fun t2 hf2 => ⟨by rw [hf2 26 (by decide), f5 26 (by decide), hf 26 (by decide), hk1]; exact h1.2.1, by rw [hf2 28 (by decide), f5 28 (by decide), hf 28 (by decide), hk2]; exact h2.2.1, fun p q hp hq => by rw [hf2 24 (by decide), f5 24 (by decide)]; exact g p q hp hq⟩
  obtain ⟨W, hWW⟩ : ∃ W, W = 2 ^ k2 - 1 := ⟨_, rfl⟩
  rw [← hWW] at hW ⊢
  have hn7 : ∀ p S, p ≤ k1 → S ≤ W → dpT n p1 p2 k2 p S ≤ 7 := fun p S hp hS => dpT_n t2 h7 (by omega) (by omega) (fun x hx => by have := q1 x hx; omega)
  refine LOOP_up (fun p (t : Mem) => (nI p, t)) k1 (by omega) (fun p t => Fr [25] M5 t ∧ ∀ S, S ≤ W → t 25 S = nI (dpT n p1 p2 k2 p S)) (fun o => wp o _) ?_ ?_ 0 M5 (by omega) ⟨Fr.rf, fun S hS => by rw [g5, if_pos (by omega)]; rfl⟩
  · rintro p t3 ag3 hp ⟨hf3, g3⟩ ih3
    show wp (Ma_keepers_L64 (nI W) _ ag3 (nI p) t3) _
    unfold Ma_keepers_L64
    obtain ⟨x1, x2, x3⟩ := hall t3 hf3
    rw [x1, if_neg (by rw [nI_leI (by omega) (by omega)]; omega)]
    refine LOOP_down (fun F (t : Mem) => (nI F, t)) (fun F t => F ≤ W ∧ Fr [25] M5 t ∧ ∀ S, S ≤ W → t 25 S = nI (if F < S then dpT n p1 p2 k2 (p + 1) S else dpT n p1 p2 k2 p S)) (fun o => wp o _) ?_ ?_ W t3 (by omega) ⟨Nat.le_refl _, hf3, fun S hS => by rw [if_neg (by omega)]; exact g3 S hS⟩
    · rintro F t4 ag4 ⟨hF, hf4, g4⟩ ih4
      show wp (Ma_keepers_L76 (nI p) _ ag4 (nI (F + 1)) t4) _
      unfold Ma_keepers_L76
      obtain ⟨y1, y2, y3⟩ := hall t4 hf4
      rw [if_neg (by rw [nI_pos_iff (by omega)]; omega), y2, Ma_bestFor_eq (n := n) (p1 := p1) (p2 := p2) (D := dpT n p1 p2 k2 p) h7 t2 (by omega) (by omega) (fun T hT => ⟨by rw [g4 T (by omega), if_neg (by omega)], hn7 p T (by omega) (by omega)⟩) (fun q hq => y3 p q (by omega) (by omega)), bind_s, SP_put_nI (by omega) (by omega), bind_s, pk_m1]
      refine ih4 _ ⟨by omega, hf4.tr (Fr.st (by simp)), fun S hS => ?_⟩
      rw [st2_s]
      by_cases c : S = F + 1
      · rw [c, upd_s, if_pos (by omega)]; rfl
      · rw [upd_n c, g4 S hS]
        by_cases c2 : F + 1 < S
        · rw [if_pos c2, if_pos (by omega)]
        · rw [if_neg c2, if_neg (by omega)]
    · rintro t4 ag4 ⟨hF, hf4, g4⟩
      show wp (Ma_keepers_L76 (nI p) _ ag4 (nI 0) t4) _
      unfold Ma_keepers_L76
      rw [if_pos (by decide), nI_1]
      refine ih3 t4 ⟨hf4, fun S hS => ?_⟩
      rw [g4 S hS]
      by_cases c : 0 < S
      · rw [if_pos c]
      · rw [if_neg c, show S = 0 by omega]
        congr 1
        have e : ∀ k, bfF n p1 p2 (dpT n p1 p2 k2 p) p 0 k = dpT n p1 p2 k2 p 0 := by
          intro k
          induction k with
          | zero => rfl
          | succ k ih => rw [bfF_s, Nat.zero_testBit, if_neg (by decide), ih]
        exact (e k2).symm
  · rintro t3 ag3 ⟨hf3, g3⟩
    show wp (Ma_keepers_L64 (nI W) _ ag3 (nI k1) t3) _
    unfold Ma_keepers_L64
    obtain ⟨x1, x2, x3⟩ := hall t3 hf3
    rw [x1, if_pos (by rw [nI_leI (by omega) (by omega)]; omega)]
    show wp (Option.bind (SP_at 25 (nI W) t3) fun r_4 => some (r_4, t3)) _
    rw [SP_at_nI (by omega) (by omega), bind_s, g3 W (Nat.le_refl _)]
    exact wp_some ⟨((hf.mo (by simp)).tr (f5.mo (by simp))).tr (hf3.mo (by simp)), rfl⟩
def R_shift (σ : Sg) (v w kd : Int32) : Ans := if inrB kd 5 = true then (if oB v 0 100 = 4 ∨ oB w 0 100 = 4 then no σ 4 else if oB v 0 100 = 6 ∨ oB w 0 100 = 6 then no σ 6 else (σ, nI σ.1 - nI (kpM σ.1 (cst σ v.toInt.toNat kd.toInt.toNat (fun _ => 0)) (cst σ w.toInt.toNat kd.toInt.toNat (fun _ => 0))))) else no σ 1
theorem oB4 {v : Int32} : (v < 0) ↔ oB v 0 100 = 4 := by
  unfold oB
  rw [i_lt, i_0]
  by_cases c : v.toInt < ((0 : Nat) : Int)
  · rw [if_pos c]; exact ⟨fun _ => rfl, fun _ => c⟩
  · rw [if_neg c]
    refine ⟨fun z => absurd z c, fun z => ?_⟩
    split at z <;> cases z
theorem oB4' {v : Int32} : (0 ≤ v) ↔ ¬ oB v 0 100 = 4 := by
  rw [← oB4, i_lt, i_le]; omega
theorem oB6 {v : Int32} (h : ¬ oB v 0 100 = 4) : (100 < v) ↔ oB v 0 100 = 6 := by
  rw [← oB4] at h
  unfold oB
  rw [i_lt, i_0] at h
  rw [i_lt, show (100 : Int32).toInt = 100 from rfl, if_neg (show ¬ v.toInt < ((0 : Nat) : Int) from h)]
  by_cases c : ((100 : Nat) : Int) < v.toInt
  · rw [if_pos c]; exact ⟨fun _ => rfl, fun _ => c⟩
  · rw [if_neg c]
    exact ⟨fun z => absurd z c, fun z => by cases z⟩
theorem oB6' {v : Int32} (h : ¬ oB v 0 100 = 4) : (v ≤ 100) ↔ ¬ oB v 0 100 = 6 := by
  rw [← oB6 h, i_lt, i_le]; omega
theorem oB_ok {v : Int32} (h4 : ¬ oB v 0 100 = 4) (h6 : ¬ oB v 0 100 = 6) : ∃ j, j ≤ 100 ∧ v = nI j := by
  rcases oB_v v 0 100 with e | e | e
  · exact absurd e h4
  · exact absurd e h6
  · obtain ⟨j, -, h2, h3⟩ := oB_0 (by omega) e
    exact ⟨j, h2, h3⟩
theorem SCRk : ∀ a ∈ [24, 25], a ∈ SCR := by decide
set_option maxHeartbeats 1000000 in
theorem SP_shift_wp {σ : Sg} {M : Mem} (v w kd : Int32) (hw : WF σ) (h : RC M σ) : wp (SP_shift v w kd M) (EC (R_shift σ v w kd) M) := by
  have h7 : σ.1 ≤ 7 := hw.2.1
  unfold SP_shift R_shift
  rw [SP_isSameness_eq, bind_s, jp_e, jp_e]
  by_cases hk : inrB kd 5 = true
  · rw [if_neg (by rw [cI_0]; exact not_not_intro hk), if_pos hk]
    by_cases c1 : oB v 0 100 = 4
    · rw [if_pos (oB4.mpr c1), if_pos (Or.inl c1)]
      exact SP_no4 h rfl_hi
    rw [if_neg (fun z => c1 (oB4.mp z))]
    by_cases c2 : oB w 0 100 = 4
    · rw [if_neg (fun z => oB4'.mp z c2), if_pos (Or.inr c2)]
      exact SP_no4 h rfl_hi
    rw [if_pos (oB4'.mpr c2), if_neg (show ¬ (oB v 0 100 = 4 ∨ oB w 0 100 = 4) from fun z => by rcases z with z | z; exact c1 z; exact c2 z)]
    by_cases c3 : oB v 0 100 = 6
    · rw [if_pos ((oB6 c1).mpr c3), if_pos (Or.inl c3)]
      exact SP_no6 h rfl_hi
    rw [if_neg (fun z => c3 ((oB6 c1).mp z))]
    by_cases c4 : oB w 0 100 = 6
    · rw [if_neg (fun z => (oB6' c2).mp z c4), if_pos (Or.inr c4)]
      exact SP_no6 h rfl_hi
    rw [if_pos ((oB6' c2).mpr c4), if_neg (show ¬ (oB v 0 100 = 6 ∨ oB w 0 100 = 6) from fun z => by rcases z with z | z; exact c3 z; exact c4 z)]
    obtain ⟨a, ha, rfl⟩ := oB_ok c1 c3
    obtain ⟨b, hb, rfl⟩ := oB_ok c2 c4
    obtain ⟨k, hk5, rfl⟩ := inr_of (inrB_iff.mp hk) (by omega)
    rw [nat3 (by omega), nat3 (by omega), nat3 (by omega)]
    refine wp_bind (SP_partOfYear_wp (Or.inl rfl) ha hk5 hw h) (fun M4 h4 => ?_)
    obtain ⟨f4, p4⟩ := h4
    have g4 := f4.mo (SCRy 26 (Or.inl rfl))
    have r4 := h.fr g4
    refine wp_bind (SP_partOfYear_wp (Or.inr rfl) hb hk5 hw r4) (fun M5 h5 => ?_)
    obtain ⟨f5, p5⟩ := h5
    have g5 := f5.mo (SCRy 28 (Or.inr rfl))
    have r5 := r4.fr g5
    refine wp_bnd2 (Ma_keepers_wp hw.1 h7 (p4.fr (f5 26 (by decide)) (f5 27 (by decide))) p5 cst0_RGS cst0_RGS) (fun r M6 h6 => ?_)
    obtain ⟨f6, e6⟩ := h6
    have g6 := f6.mo SCRk
    rw [show r = _ from e6, show M5 1 2 = nI σ.1 from r5.1]
    exact wp_some (ec_ok (r5.fr g6) ((g4.tr g5).tr g6).hi)
  · rw [if_pos (by rw [cI_0]; exact hk), if_neg hk]
    exact SP_no1 h rfl_hi
theorem SMRs : ∀ a ∈ [49, 50, 51, 52, 53, 54], a ∈ SMR := by decide
set_option maxHeartbeats 2000000 in
theorem MD_shift_wp {σ : Sg} {M : Mem} (v w kd : Int32) (hw : WF σ) (h : RM M σ) : wp (MD_shift v w kd M) (EM (R_shift σ v w kd) M) := by
  have h7 : σ.1 ≤ 7 := hw.2.1
  have h1n : 1 ≤ σ.1 := hw.1
  unfold MD_shift R_shift
  rw [MD_isSameness_eq, bind_s, jp_e]
  by_cases hk : inrB kd 5 = true
  · rw [if_neg (by rw [cI_0]; exact not_not_intro hk), if_pos hk]
    by_cases c1 : oB v 0 100 = 4
    · rw [if_pos (oB4.mpr c1), if_pos (Or.inl c1)]
      exact MD_no4 h rfl_lo
    rw [if_neg (fun z => c1 (oB4.mp z))]
    by_cases c2 : oB w 0 100 = 4
    · rw [if_neg (fun z => oB4'.mp z c2), if_pos (Or.inr c2)]
      exact MD_no4 h rfl_lo
    rw [if_pos (oB4'.mpr c2), if_neg (show ¬ (oB v 0 100 = 4 ∨ oB w 0 100 = 4) from fun z => by rcases z with z | z; exact c1 z; exact c2 z)]
    by_cases c3 : oB v 0 100 = 6
    · rw [if_pos ((oB6 c1).mpr c3), if_pos (Or.inl c3)]
      exact MD_no6 h rfl_lo
    rw [if_neg (fun z => c3 ((oB6 c1).mp z))]
    by_cases c4 : oB w 0 100 = 6
    · rw [if_neg (fun z => (oB6' c2).mp z c4), if_pos (Or.inr c4)]
      exact MD_no6 h rfl_lo
    rw [if_pos ((oB6' c2).mpr c4), if_neg (show ¬ (oB v 0 100 = 6 ∨ oB w 0 100 = 6) from fun z => by rcases z with z | z; exact c3 z; exact c4 z)]
    show wp (if (0 : Int32) = 0 then _ else _) _
    rw [if_pos rfl]
    obtain ⟨a, ha, rfl⟩ := oB_ok c1 c3
    obtain ⟨b, hb, rfl⟩ := oB_ok c2 c4
    obtain ⟨k, hk5, rfl⟩ := inr_of (inrB_iff.mp hk) (by omega)
    rw [nat3 (by omega), nat3 (by omega), nat3 (by omega)]
    obtain ⟨p1, hp1⟩ : ∃ p1, p1 = cst σ a k (fun _ => 0) := ⟨_, rfl⟩
    obtain ⟨p2, hp2⟩ : ∃ p2, p2 = cst σ b k (fun _ => 0) := ⟨_, rfl⟩
    have r1 : RGS σ.1 p1 := by rw [hp1]; exact cst0_RGS
    have r2 : RGS σ.1 p2 := by rw [hp2]; exact cst0_RGS
    have l1 := r1.ltn
    have l2 := r2.ltn
    rw [← hp1, ← hp2]
    refine wp_bnd2 (MD_coarsestOn_wp ha hk5 hw h) (fun r3 M2 h2 => ?_)
    obtain ⟨f2, e2⟩ := h2
    have g2 : Fr SMR M M2 := f2.mo SMRy
    refine wp_bnd2 (MD_coarsestOn_wp hb hk5 hw (h.fr g2)) (fun r4 M3 h3 => ?_)
    obtain ⟨f3, e3⟩ := h3
    have g3 : Fr SMR M M3 := g2.tr (f3.mo SMRy)
    rw [show r3 = _ from e2, show r4 = _ from e3, ← hp1, ← hp2]
    have rm3 := h.fr g3
    refine wp_bnd2 (MD_opens_wp (k := 50) (Or.inl rfl) h1n h7 rm3.1) (fun r5 M4 h4 => ?_)
    obtain ⟨f4, h4⟩ := h4
    have g4 : Fr SMR M M4 := g3.tr (f4.mo (by decide))
    have a4 : AR M4 50 σ.1 p1 := by
      rw [opn_num r1 h7] at h4
      rcases h4 with ⟨q, c1, -, c3⟩ | ⟨c1, -⟩
      · cases c1; exact dgA r1 h7 c3
      · cases c1
    have rm4 := h.fr g4
    refine wp_bnd2 (MD_opens_wp (k := 51) (Or.inr rfl) h1n h7 rm4.1) (fun r6 M5 h5 => ?_)
    obtain ⟨f5, h5⟩ := h5
    have g5 : Fr SMR M M5 := g4.tr (f5.mo (by decide))
    have a5 : AR M5 51 σ.1 p2 := by
      rw [opn_num r2 h7] at h5
      rcases h5 with ⟨q, c1, -, c3⟩ | ⟨c1, -⟩
      · cases c1; exact dgA r2 h7 c3
      · cases c1
    have a5' : AR M5 50 σ.1 p1 := a4.fr (f5 50 (by decide))
    have rm5 := h.fr g5
    refine wp_bind MD_firstNames_wp (fun M6 h6 => ?_)
    obtain ⟨f6, a6⟩ := h6
    have n5 : M5 33 8 = nI σ.1 := rm5.1
    have hfin : ∀ t x, Fr [54] M5 t → EM (σ, x) M (x, t) := fun t x hf => em_ok (rm5.fr (hf.mo (by decide))) (g5.tr (hf.mo (by decide))).lo
    obtain ⟨n, hN⟩ : ∃ n, n = σ.1 := ⟨_, rfl⟩
    rw [← hN] at h7 h1n l1 l2 a5 a5' n5 ⊢
    have hmx : ∀ l, mxL (fun m => stN n p1 p2 (dg n m)) l ≤ 7 := fun l => by
      have : ∀ (l : List Nat) b, b ≤ 7 → l.foldl (fun b m => max b (stN n p1 p2 (dg n m))) b ≤ 7 := by
        intro l
        induction l with
        | nil => intro b hb; exact hb
        | cons x l ih =>
          intro b hb
          rw [List.foldl_cons]
          have := stN_le (n := n) (p1 := p1) (p2 := p2) (f := dg n x)
          exact ih _ (by omega)
      exact this l 0 (by omega)
    refine PL_loop h1n h7 (fun r (t : Int32 × Mem) => (t.1, r, t.2)) (fun done t => Fr [54] M5 t.2 ∧ t.1 = nI (mxL (fun m => stN n p1 p2 (dg n m)) done)) (fun t m => AR t.2 54 n (dg n m)) (fun o => wp o _) ?_ ?_ (0, M6) ⟨f6, rfl⟩ ((a6.le h7).cg (fun x hx => (dg_id h7 x hx).symm))
    · rintro done m l ⟨mx, t⟩ ag e ⟨hf, em⟩ hA ih
      dsimp only at hf em hA
      subst em
      show wp (MD_shift_L106 _ ag _ 1 t) _
      unfold MD_shift_L106
      rw [if_neg one_ne0]
      have hm : m ∈ PL n := by rw [e]; exact List.mem_append_right _ List.mem_cons_self
      have hp := (PL_inv h7 hm).1
      have tn : t 33 8 = nI n := (congrFun (hf 33 (by decide)) 8).trans n5
      have tp1 : AR t 50 n p1 := a5'.fr (hf 50 (by decide))
      have tp2 : AR t 51 n p2 := a5.fr (hf 51 (by decide))
      have hbm := hmx done
      refine LOOP_up (fun x (c : Int32) => (c, nI x)) n (by omega) (fun x c => c = nI (sm x (fun x => if dg n m (p1 x) = p2 x then 1 else 0))) (fun o => wp o _) ?_ ?_ 0 0 (by omega) rfl
      · rintro x c ag' hx rfl ih'
        show wp (MD_shift_L117 t _ ag' _ (nI x)) _
        unfold MD_shift_L117
        have b1 := l1 x hx
        have b2 := l2 x hx
        have b3 := hp.1 (p1 x) b1
        rw [tn, if_neg (by rw [nI_leI (by omega) (by omega)]; omega), if_pos ((inb_nI (by omega)).mpr (by omega)), rd_nI (by omega), tp1 x hx, if_pos ((inb_nI (by omega)).mpr (by omega)), if_pos ((inb_nI (by omega)).mpr (by omega)), rd_nI (by omega), rd_nI (by omega), hA _ b1, tp2 x hx]
        by_cases c : dg n m (p1 x) = p2 x
        · rw [if_pos (by rw [c]), nm_e', nI_1, nI_1]
          refine ih' _ ?_
          rw [sm_s, if_pos c]
        · rw [if_neg (by rw [nI_eq (by omega) (by omega)]; exact c), nm_e', show (0 : Int32) = nI 0 from rfl, nI_add, nI_1]
          refine ih' _ ?_
          rw [sm_s, if_neg c]
      · rintro c ag' rfl
        show wp (MD_shift_L117 t _ ag' _ (nI n)) _
        unfold MD_shift_L117
        rw [tn, if_pos (by rw [nI_leI (by omega) (by omega)]; omega)]
        show wp (jp _ _) _
        rw [jp_e]
        have hst := stN_le (n := n) (p1 := p1) (p2 := p2) (f := dg n m)
        have hgo : ∀ s : Int32, s = nI (mxL (fun m => stN n p1 p2 (dg n m)) (done ++ [m])) → wp (bnd2 (MD_nextNames (nI n) t) fun r_7 M8 => ag (s, r_7, M8)) (EM (σ, nI n - nI (kpM n p1 p2)) M) := fun s hs => by
          subst hs
          refine wp_bnd2 (MD_nx h1n h7 e hA) (fun r M8 h8 => ?_)
          obtain ⟨f8, c8⟩ := h8
          exact ih (_, M8) r ⟨hf.tr f8, rfl⟩ c8
        rw [mxL_a] at hgo
        have es : sm n (fun x => if dg n m (p1 x) = p2 x then 1 else 0) = stN n p1 p2 (dg n m) := rfl
        dsimp only
        rw [es]
        by_cases c : stN n p1 p2 (dg n m) ≤ mxL (fun m => stN n p1 p2 (dg n m)) done
        · rw [if_pos (by rw [nI_leI (by omega) (by omega)]; exact c)]
          refine hgo _ ?_
          congr 1; omega
        · rw [if_neg (by rw [nI_leI (by omega) (by omega)]; exact c)]
          refine hgo _ ?_
          congr 1; omega
    · rintro ⟨mx, t⟩ ag ⟨hf, em⟩
      dsimp only at hf em
      subst em
      show wp (MD_shift_L106 _ ag _ 0 t) _
      unfold MD_shift_L106
      rw [if_pos rfl]
      dsimp only
      rw [show t 33 8 = nI n from (congrFun (hf 33 (by decide)) 8).trans n5]
      exact wp_some (hfin t _ hf)
  · rw [if_pos (by rw [cI_0]; exact hk), if_neg hk]
    exact MD_no1 h rfl_lo
