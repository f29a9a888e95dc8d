/-! by hand: form: the reference -/
theorem S9.of {σ : Sg} (hw : WF σ) {y : Nat} : S9 (tab σ.2.2.2.2.2.2.1 y σ.2.2.1) := fun k x z _ _ _ => tab_le y hw.2.2.2.2.2.2.2.1 _
set_option maxHeartbeats 4000000 in
theorem MD_form_wp {σ : Sg} {M : Mem} (hw : WF σ) (h : RM M σ) : wp (MD_form M) (EM (R_form σ) M) := by
  have h1 := hw.1
  have h7 : σ.1 ≤ 7 := hw.2.1
  have h9 : S9 (sS σ) := S9.of hw
  have hwf : TWF σ.1 σ.2.2.2.2.2.1 (sS σ) := TWF.of hw (y := σ.2.1)
  unfold MD_form R_form
  rw [show M 33 10 = nI σ.2.1 from h.2.1]
  refine wp_bind (MD_look hw.2.2.1 hw h) (fun M1 hM1 => ?_)
  obtain ⟨f1, t1⟩ := hM1
  have g1 := f1.mo SMR49
  have r1 := h.fr g1
  have tm1 : TM M1 σ.1 σ.2.2.2.2.2.1 (sS σ) := TM.of r1 t1
  have hfin : ∀ t a, Fr [54, 55, 56] M1 t → EM (σ, a) M (a, t) := fun t a hf => em_ok (r1.fr (hf.mo (by decide))) (g1.tr (hf.mo (by decide))).lo
  obtain ⟨n, hN⟩ : ∃ n, n = σ.1 := ⟨_, rfl⟩
  obtain ⟨ma, hma⟩ : ∃ ma, ma = σ.2.2.2.2.2.1 := ⟨_, rfl⟩
  obtain ⟨S, hS⟩ : ∃ S, S = sS σ := ⟨_, rfl⟩
  rw [← hN, ← hma, ← hS] at hwf tm1 ⊢
  rw [← hN] at h1 h7
  rw [← hS] at h9
  obtain ⟨N, hNN⟩ : ∃ N, N = n + 3 * n * n := ⟨_, rfl⟩
  have hN154 : N ≤ 154 := by rw [hNN]; exact ix_N h7
  have hnN : n ≤ N := by rw [hNN]; omega
  rw [tm1.2.1, show (3 : Int32) = nI 3 from rfl, pk_mul, pk_mul, nI_add, nm_e', ← hNN]
  refine wp_bind MD_firstNames_wp (fun M2 hM2 => ?_)
  obtain ⟨f2, a2⟩ := hM2
  refine PL_loop h1 h7 (fun r (t : Int32 × Mem) => (r, t.1, t.2)) (fun done t => Fr [54, 55, 56] M1 t.2 ∧ ((done = [] ∧ t.1 = 1) ∨ (t.1 = 0 ∧ ∃ m0, m0 ∈ done ∧ AR t.2 55 N (rwF S ma n (dg n m0)) ∧ ∀ m, m ∈ done → rwN S ma n (dg n m0) ≤ rwN S ma n (dg n m)))) (fun t m => AR t.2 54 n (dg n m)) (fun o => wp o _) ?_ ?_ (1, M2) ⟨f2.mo (by simp), Or.inl ⟨rfl, rfl⟩⟩ ((a2.le h7).cg (fun x hx => (dg_id h7 x hx).symm))
  · rintro done m l ⟨fs, t6⟩ ag e ⟨hf6, hcs⟩ ha ih
    dsimp only at hf6 hcs ha
    show wp (MD_form_L33 (nI N) _ ag 1 fs t6) _
    unfold MD_form_L33
    have hm : m ∈ PL n := by rw [e]; exact List.mem_append_right _ List.mem_cons_self
    have hp := (PL_inv h7 hm).1
    have hpl := hp.1
    have tm6 := tm1.fr hf6 (by decide) (by decide) (by decide)
    have r10 := rw_lt hwf h9 hpl
    rw [← hNN] at r10
    obtain ⟨r, hr⟩ : ∃ r, r = rwF S ma n (dg n m) := ⟨_, rfl⟩
    rw [← hr] at r10
    have tmx : ∀ {t}, Fr [56] t6 t → t 33 8 = nI n ∧ AR t 54 n (dg n m) ∧ AR t 35 7 ma ∧ Tbl t 49 S := fun hf => ⟨(congrFun (hf 33 (by decide)) 8).trans tm6.2.1, ha.fr (hf 54 (by decide)), tm6.2.2.fr (hf 35 (by decide)), tm6.1.fr (hf 49 (by decide))⟩
    rw [if_neg one_ne0]
    -- the row
    refine LOOP_up (fun x (t : Mem) => (nI x, nI x, t)) n (by omega) (fun x t => Fr [56] t6 t ∧ AR t 56 x r) (fun o => wp o _) ?_ ?_ 0 t6 (by omega) ⟨Fr.rf, fun j hj => by omega⟩
    · rintro x t ag1 hx ⟨hf, g⟩ ih1
      obtain ⟨e1, e2, e3, e4⟩ := tmx hf
      have q := hpl x hx
      show wp (MD_form_L43 _ ag1 (nI x) (nI x) t) _
      unfold MD_form_L43
      rw [e1, if_neg (by rw [nI_leI (by omega) (by omega)]; omega), if_pos ((inb_nI (by omega)).mpr (by omega)), rd_nI (by omega), e2 x hx, if_pos ((inb_nI (by omega)).mpr (by omega)), if_pos ((inb_nI (by omega)).mpr (by omega)), nm_e', rd_nI (by omega), e3 _ (by omega), wr_nI (by omega), nI_1]
      refine ih1 _ ⟨hf.tr (Fr.st (by simp)), fun j hj => ?_⟩
      rw [st2_s]
      by_cases c : j = x
      · rw [c, upd_s, hr, rw_m hx]
      · rw [upd_n c]; exact g j (by omega)
    rintro t ag1 ⟨hf, g⟩
    show wp (MD_form_L43 _ ag1 (nI n) (nI n) t) _
    unfold MD_form_L43
    rw [(tmx hf).1, if_pos (by rw [nI_leI (by omega) (by omega)]; omega)]
    dsimp only
    refine (show ∀ X, X = nI (n + 0 * n * n) → wp (LOOP _ FU (X, (0 : Int32), t)) _ from ?_) (nI n) (by rw [Nat.zero_mul, Nat.zero_mul, Nat.add_zero])
    intro X hX
    subst hX
    refine LOOP_up (fun k (t : Mem) => (nI (n + k * n * n), nI k, t)) 3 (by omega) (fun k t => Fr [56] t6 t ∧ AR t 56 (n + k * n * n) r) (fun o => wp o _) ?_ ?_ 0 t (by omega) ⟨hf, by rw [Nat.zero_mul, Nat.zero_mul, Nat.add_zero]; exact g⟩
    · rintro k t ag2 hk ⟨hf, g⟩ ih2
      show wp (MD_form_L83 _ ag2 (nI (n + k * n * n)) (nI k) t) _
      unfold MD_form_L83
      rw [if_neg (by rw [show (3 : Int32) = nI 3 from rfl, nI_leI (by omega) (by omega)]; omega)]
      refine LOOP_up (fun x (t : Mem) => (nI (n + (k * n + x) * n), nI x, t)) n (by omega) (fun x t => Fr [56] t6 t ∧ AR t 56 (n + (k * n + x) * n) r) (fun o => wp o _) ?_ ?_ 0 t (by omega) ⟨hf, g⟩
      · rintro x t ag3 hx ⟨hf, g⟩ ih3
        show wp (MD_form_L92 (nI k) _ ag3 (nI (n + (k * n + x) * n)) (nI x) t) _
        unfold MD_form_L92
        rw [(tmx hf).1, if_neg (by rw [nI_leI (by omega) (by omega)]; omega)]
        refine LOOP_up (fun z (t : Mem) => (nI (n + (k * n + x) * n + z), nI z, t)) n (by omega) (fun z t => Fr [56] t6 t ∧ AR t 56 (n + (k * n + x) * n + z) r) (fun o => wp o _) ?_ ?_ 0 t (by omega) ⟨hf, g⟩
        · rintro z t ag4 hz ⟨hf, g⟩ ih4
          obtain ⟨e1, e2, e3, e4⟩ := tmx hf
          have q1 := hpl x hx
          have q2 := hpl z hz
          have hb := ix_b h7 hk hx hz
          show wp (MD_form_L104 (nI k) (nI x) _ ag4 (nI (n + (k * n + x) * n + z)) (nI z) t) _
          unfold MD_form_L104
          rw [e1, if_neg (by rw [nI_leI (by omega) (by omega)]; omega), if_pos ((inb_nI (by omega)).mpr (by omega)), if_pos ((inb_nI (by omega)).mpr (by omega)), rd_nI (by omega), rd_nI (by omega), e2 x hx, e2 z hz, MD_strong_eq e4 hk (by omega) (by omega), bind_s, if_pos ((inb_nI (by omega)).mpr (by omega)), nm_e', wr_nI (by omega), nI_1, nI_1]
          refine ih4 _ ⟨hf.tr (Fr.st (by simp)), fun j hj => ?_⟩
          rw [st2_s]
          by_cases c : j = n + (k * n + x) * n + z
          · rw [c, upd_s, hr, rw_k h7 hx hz]
          · rw [upd_n c]; exact g j (by omega)
        · rintro t ag4 ⟨hf, g⟩
          show wp (MD_form_L104 (nI k) (nI x) _ ag4 (nI (n + (k * n + x) * n + n)) (nI n) t) _
          unfold MD_form_L104
          have ei : n + (k * n + x) * n + n = n + (k * n + (x + 1)) * n := by rw [← Nat.add_assoc (k * n) x 1, Nat.succ_mul (k * n + x) n, Nat.add_assoc n]
          rw [(tmx hf).1, if_pos (by rw [nI_leI (by omega) (by omega)]; omega), ei, nI_1]
          exact ih3 t ⟨hf, by rw [← ei]; exact g⟩
      · rintro t ag3 ⟨hf, g⟩
        show wp (MD_form_L92 (nI k) _ ag3 (nI (n + (k * n + n) * n)) (nI n) t) _
        unfold MD_form_L92
        have ei : n + (k * n + n) * n = n + (k + 1) * n * n := by rw [Nat.succ_mul]
        rw [(tmx hf).1, if_pos (by rw [nI_leI (by omega) (by omega)]; omega), ei, nI_1]
        exact ih2 t ⟨hf, by rw [← ei]; exact g⟩
    rintro t ag2 ⟨hf, g⟩
    show wp (MD_form_L83 _ ag2 (nI (n + 3 * n * n)) (nI 3) t) _
    unfold MD_form_L83
    rw [if_pos (by decide)]
    rw [← hNN] at g
    -- what comes behind the comparison
    have hk1 : ∀ t', Fr [55] t t' → (∃ m0, m0 ∈ done ++ [m] ∧ AR t' 55 N (rwF S ma n (dg n m0)) ∧ ∀ a, a ∈ done ++ [m] → rwN S ma n (dg n m0) ≤ rwN S ma n (dg n a)) → wp (bnd2 (MD_nextNames (t' 33 8) t') fun r_2 M15 => ag (r_2, 0, M15)) (EM (σ, nI (frm S ma n % 1000000007)) M) := fun t' hf' hx => by
      rw [show t' 33 8 = nI n from (congrFun (hf' 33 (by decide)) 8).trans (tmx hf).1]
      refine wp_bnd2 (MD_nx h1 h7 e ((tmx hf).2.1.fr (hf' 54 (by decide)))) (fun r2 M15 h15 => ?_)
      obtain ⟨f15, c15⟩ := h15
      dsimp only at f15 c15
      obtain ⟨m0, k1, k2, k3⟩ := hx
      exact ih (0, M15) r2 ⟨((hf6.tr (hf.mo (by simp))).tr (hf'.mo (by simp))).tr (f15.mo (by simp)), Or.inr ⟨rfl, m0, k1, k2.fr (f15 55 (by decide)), k3⟩⟩ c15
    have hk2 : (∀ a, a ∈ done → rwN S ma n (dg n m) ≤ rwN S ma n (dg n a)) → wp (LOOP (fun aq sq => MD_form_L227 (nI N) (fun (M18 : Mem) => bnd2 (MD_nextNames (M18 33 8) M18) fun r_2 M15 => ag (r_2, 0, M15)) aq sq.1 sq.2) FU (0, t)) (EM (σ, nI (frm S ma n % 1000000007)) M) := fun hle => by
      refine LOOP_up (fun j (t' : Mem) => (nI j, t')) N (by omega) (fun j t' => Fr [55] t t' ∧ AR t' 55 j r) (fun o => wp o _) ?_ ?_ 0 t (by omega) ⟨Fr.rf, fun j hj => by omega⟩
      · rintro j t' ag5 hj ⟨hf', g'⟩ ih5
        show wp (MD_form_L227 (nI N) _ ag5 (nI j) t') _
        unfold MD_form_L227
        rw [if_neg (by rw [nI_leI (by omega) (by omega)]; omega), if_pos ((inb_nI (by omega)).mpr (by omega)), if_pos ((inb_nI (by omega)).mpr (by omega)), nm_e', wr_nI (by omega), rd_nI (by omega), hf' 56 (by decide), g j hj, nI_1]
        refine ih5 _ ⟨hf'.tr (Fr.st (by simp)), fun i hi => ?_⟩
        rw [st2_s]
        by_cases c : i = j
        · rw [c, upd_s]
        · rw [upd_n c]; exact g' i (by omega)
      · rintro t' ag5 ⟨hf', g'⟩
        show wp (MD_form_L227 (nI N) _ ag5 (nI N) t') _
        unfold MD_form_L227
        rw [if_pos (by rw [nI_leI (by omega) (by omega)]; omega)]
        refine hk1 t' hf' ⟨m, List.mem_append_right _ List.mem_cons_self, by rw [← hr]; exact g', fun a ha => ?_⟩
        rcases List.mem_append.mp ha with q | q
        · exact hle a q
        · rw [List.mem_singleton.mp q]; exact Nat.le_refl _
    rcases hcs with ⟨rfl, rfl⟩ | ⟨rfl, m0, k1, k2, k3⟩
    · refine LOOP_up (fun i (_ : Unit) => nI i) N (by omega) (fun i _ => i = 0) (fun o => wp o _) ?_ ?_ 0 () (by omega) rfl
      · rintro i - ag5 hi rfl ih5
        show wp (MD_form_L164 (nI N) 1 t _ ag5 (nI 0)) _
        unfold MD_form_L164
        rw [if_neg one_ne0]
        show wp (jp _ _) _
        rw [jp_e, jp_e, if_neg one_ne0]
        exact hk2 (fun a ha => by cases ha)
      · rintro - ag5 hi
        omega
    · have m10 : m0 ∈ PL n := by rw [e]; exact List.mem_append_left _ k1
      have l10 := rw_lt hwf h9 (PL_inv h7 m10).1.1
      rw [← hNN] at l10
      have k2t : AR t 55 N (rwF S ma n (dg n m0)) := k2.fr (hf 55 (by decide))
      have hkeep : rwN S ma n (dg n m0) ≤ rwN S ma n (dg n m) → wp (bnd2 (MD_nextNames (t 33 8) t) fun r_2 M15 => ag (r_2, 0, M15)) (EM (σ, nI (frm S ma n % 1000000007)) M) := fun hle => hk1 t Fr.rf ⟨m0, List.mem_append_left _ k1, k2t, fun a ha => by
        rcases List.mem_append.mp ha with q | q
        · exact k3 a q
        · rw [List.mem_singleton.mp q]; exact hle⟩
      obtain ⟨l0, hl0⟩ : ∃ l0, l0 = rwF S ma n (dg n m0) := ⟨_, rfl⟩
      rw [← hl0] at l10 k2t
      have eN : rwN S ma n (dg n m) = num r N := by rw [hr, hNN]; rfl
      have eN0 : rwN S ma n (dg n m0) = num l0 N := by rw [hl0, hNN]; rfl
      refine LOOP_up (fun i (_ : Unit) => nI i) N (by omega) (fun i _ => ∀ j, j < i → r j = l0 j) (fun o => wp o _) ?_ ?_ 0 () (by omega) (fun j hj => by omega)
      · rintro i - ag5 hi hJ ih5
        show wp (MD_form_L164 (nI N) 0 t _ ag5 (nI i)) _
        unfold MD_form_L164
        have b1 := r10 i hi
        have b2 := l10 i hi
        rw [if_pos rfl, if_neg (by rw [nI_leI (by omega) (by omega)]; omega), if_pos ((inb_nI (by omega)).mpr (by omega)), if_pos ((inb_nI (by omega)).mpr (by omega)), rd_nI (by omega), rd_nI (by omega), g i hi, k2t i hi]
        by_cases c : r i = l0 i
        · rw [if_pos (by rw [c]), nI_1]
          refine ih5 () (fun j hj => ?_)
          by_cases q : j = i
          · rw [q]; exact c
          · exact hJ j (by omega)
        · rw [if_neg (by rw [nI_eq (by omega) (by omega)]; exact c)]
          show wp (jp _ _) _
          rw [jp_e, jp_e, if_pos rfl, if_neg (by rw [nI_leI (by omega) (by omega)]; omega), if_pos ((inb_nI (by omega)).mpr (by omega)), if_pos ((inb_nI (by omega)).mpr (by omega)), rd_nI (by omega), rd_nI (by omega), g i hi, k2t i hi]
          by_cases c2 : l0 i ≤ r i
          · rw [if_pos (by rw [nI_leI (by omega) (by omega)]; omega)]
            refine hkeep ?_
            rw [eN, eN0]
            exact Nat.le_of_lt (num_lex l10 hi (fun j hj => (hJ j hj).symm) (by omega))
          · rw [if_neg (by rw [nI_leI (by omega) (by omega)]; omega)]
            refine hk2 (fun a ha => Nat.le_trans (Nat.le_of_lt ?_) (k3 a ha))
            rw [eN, eN0]
            exact num_lex r10 hi hJ (by omega)
      · rintro - ag5 hJ
        show wp (MD_form_L164 (nI N) 0 t _ ag5 (nI N)) _
        unfold MD_form_L164
        rw [if_pos rfl, if_pos (by rw [nI_leI (by omega) (by omega)]; omega)]
        show wp (jp _ _) _
        rw [jp_e, jp_e, if_pos rfl, if_pos (by rw [nI_leI (by omega) (by omega)]; omega)]
        refine hkeep ?_
        rw [eN, eN0, num_cg hJ]; exact Nat.le_refl _
  · rintro ⟨fs, t6⟩ ag ⟨hf6, hcs⟩
    dsimp only at hf6 hcs
    show wp (MD_form_L33 (nI N) _ ag 0 fs t6) _
    unfold MD_form_L33
    rw [if_pos rfl]
    obtain ⟨l, e0, -⟩ := PL_cons h1 h7
    rcases hcs with ⟨h0, -⟩ | ⟨-, m0, k1, k2, k3⟩
    · rw [e0] at h0; cases h0
    · have l10 := rw_lt hwf h9 (PL_inv h7 k1).1.1
      rw [← hNN] at l10
      obtain ⟨l0, hl0⟩ : ∃ l0, l0 = rwF S ma n (dg n m0) := ⟨_, rfl⟩
      rw [← hl0] at l10 k2
      have eN0 : frm S ma n = num l0 N := by rw [frm_of k1 k3, hl0, hNN]; rfl
      rw [eN0]
      refine wp_eq (r := (nI (num l0 N % 1000000007), t6)) ?_ (hfin t6 _ hf6)
      refine LOOP_fun (fun i => (lN (num l0 i % 1000000007), nI i)) N (by omega) (fun _ => some (nI (num l0 N % 1000000007), t6)) ?_ ?_ 0 (Nat.zero_le _)
      · intro i ag5 hi ih5
        show MD_form_L273 (nI N) t6 _ ag5 (lN (num l0 i % 1000000007)) (nI i) = _
        unfold MD_form_L273
        rw [if_neg (by rw [nI_leI (by omega) (by omega)]; omega), if_pos ((inb_nI (by omega)).mpr (by omega)), rd_nI (by omega), k2 i hi, bhd' (Nat.mod_lt _ (by omega)) (l10 i hi), nm_e', ← num_md, nI_1]
        exact ih5
      · intro ag5
        show MD_form_L273 (nI N) t6 _ ag5 (lN (num l0 N % 1000000007)) (nI N) = _
        unfold MD_form_L273
        rw [if_pos (by rw [nI_leI (by omega) (by omega)]; omega)]
        dsimp only
        rw [lN_i]
