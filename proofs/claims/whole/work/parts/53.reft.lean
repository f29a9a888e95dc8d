/-! by hand: the reference goes through all orders; its turns -/
theorem PL_len {n : Nat} (h1 : 1 ≤ n) (h7 : n ≤ 7) : (PL n).length ≤ 5040 := by
  have h : ∀ n, n < 8 → (PL n).length ≤ 5040 := by decide +kernel
  exact h n (by omega)
theorem chk_mid {n : Nat} : ∀ {done l : List Nat} {m0 m : Nat}, chkF n m0 (done ++ m :: l) = true → chkF n m l = true
  | [], l, m0, m, h => (chk_s h).2.2
  | a :: done, l, m0, m, h => chk_mid (done := done) (m0 := a) (chk_s h).2.2
theorem PL_mid {n m : Nat} {done l : List Nat} (h1 : 1 ≤ n) (h7 : n ≤ 7) (h : PL n = done ++ m :: l) : chkF n m l = true := by
  obtain ⟨l0, e, hc⟩ := PL_cons h1 h7
  rw [e] at h
  cases done with
  | nil =>
    rw [List.nil_append] at h
    injection h with h1 h2
    rw [← h1, ← h2]; exact hc
  | cons a done =>
    rw [List.cons_append] at h
    injection h with h1 h2
    rw [h2] at hc
    exact chk_mid hc
theorem nxp_lt {n : Nat} {p : Nat → Nat} (h : 0 < n) (hp : Pm n p) : ∀ x, x < n → nxp n p x < n := fun x hx => by
  have h1 := pv_le p (n - 1)
  have h2 := lj_lt p (p (pv p (n - 1) - 1)) n h
  unfold nxp nxq swp
  have q1 := hp.1 (pv p (n - 1) - 1) (by omega)
  have q2 := hp.1 _ h2
  split
  · split
    · exact q1
    · split
      · exact q2
      · exact hp.1 _ hx
  · split
    · exact q1
    · split
      · exact q2
      · exact hp.1 _ (by omega)
/-- the reference's step from an order to the next one -/
theorem MD_nx {n m : Nat} {done l : List Nat} {M : Mem} (h1 : 1 ≤ n) (h7 : n ≤ 7) (h : PL n = done ++ m :: l) (ha : AR M 54 n (dg n m)) :
    wp (MD_nextNames (nI n) M) (fun r => Fr [54] M r.2 ∧ ((l = [] ∧ r.1 = 0) ∨ (∃ m' l', l = m' :: l' ∧ r.1 = 1 ∧ AR r.2 54 n (dg n m')))) := by
  have hc := PL_mid h1 h7 h
  have hm : m ∈ PL n := by rw [h]; exact List.mem_append_right _ List.mem_cons_self
  have hp := (PL_inv h7 hm).1
  refine wp_mono (MD_nextNames_wp h1 h7 ha hp) (fun r hr => ?_)
  refine ⟨hr.1, ?_⟩
  cases l with
  | nil =>
    have := chk_0 hc
    rcases hr.2 with ⟨-, b, -⟩ | ⟨a, -, -⟩
    · exact Or.inl ⟨rfl, b⟩
    · exact absurd this a
  | cons m' l' =>
    obtain ⟨c1, c2, -⟩ := chk_s hc
    rcases hr.2 with ⟨a, -, -⟩ | ⟨-, b, c⟩
    · exact absurd a c1
    · refine Or.inr ⟨m', l', rfl, b, c.cg (fun x hx => ?_)⟩
      have hm' : m' ∈ PL n := by rw [h]; exact List.mem_append_right _ (List.mem_cons_of_mem _ List.mem_cons_self)
      have hp' := PL_inv h7 hm'
      have e := num_inj (p := nxp n (dg n m)) (p' := dg n m') (n := n) (fun x hx => ?_) (fun x _ => dg_lt n m' x) (by rw [c2, hp'.2])
      · exact e x hx
      · have := nxp_lt (n := n) (by omega) hp x hx
        omega
/-- a loop over all orders -/
theorem PL_loop {σ τ β : Type} {F : (σ → Option β) → σ → Option β} {n : Nat} (h1 : 1 ≤ n) (h7 : n ≤ 7) (enc : Int32 → τ → σ) (J : List Nat → τ → Prop) (A : τ → Nat → Prop) (Q : Option β → Prop)
    (step : ∀ done m l t ag, PL n = done ++ m :: l → J done t → A t m → (∀ t' r, J (done ++ [m]) t' → (l = [] ∧ r = 0) ∨ (∃ m' l', l = m' :: l' ∧ r = 1 ∧ A t' m') → Q (ag (enc r t'))) → Q (F ag (enc 1 t)))
    (exit : ∀ t ag, J (PL n) t → Q (F ag (enc 0 t))) (t : τ) (hJ : J [] t) (hA : A t (num (fun x => x) n)) : Q (LOOP F FU (enc 1 t)) := by
  obtain ⟨l0, e0, -⟩ := PL_cons h1 h7
  have hl := PL_len h1 h7
  refine LOOP_inv (fun d s => (∃ t, d = 0 ∧ s = enc 0 t ∧ J (PL n) t) ∨ (∃ done m l t, d = l.length + 1 ∧ s = enc 1 t ∧ PL n = done ++ m :: l ∧ J done t ∧ A t m)) Q ?_ FU (l0.length + 1) _ (by rw [e0, List.length_cons] at hl; unfold FU; omega) (Or.inr ⟨[], _, l0, t, rfl, rfl, e0, hJ, hA⟩)
  rintro d s ag (⟨t, rfl, rfl, hj⟩ | ⟨done, m, l, t, rfl, rfl, e, hj, ha⟩) ih
  · exact exit t ag hj
  · refine step done m l t ag e hj ha (fun t' r hj' hr => ?_)
    rcases hr with ⟨rfl, rfl⟩ | ⟨m', l', rfl, rfl, ha'⟩
    · exact ih 0 _ (by omega) (Or.inl ⟨t', rfl, rfl, by rw [e]; exact hj'⟩)
    · exact ih (l'.length + 1) _ (by rw [List.length_cons]; omega) (Or.inr ⟨done ++ [m], m', l', t', rfl, rfl, by rw [e, List.append_assoc]; rfl, hj', ha'⟩)
theorem dg_id {n : Nat} (h7 : n ≤ 7) : ∀ x, x < n → dg n (num (fun x => x) n) x = x := (Pm.id n).dgn h7
theorem MD_isTurn_eq {M : Mem} {n : Nat} {S ma f : Nat → Nat} (h : Tbl M 49 S) (hn : M 33 8 = nI n) (h7 : n ≤ 7) (hm : AR M 35 7 ma) (hm3 : ∀ z, z < 7 → ma z ≤ 3) (hf : AR M 54 n f) (hfn : ∀ x, x < n → f x < n) : MD_isTurn M = some (cI (trnB S ma n f = true)) := by
  unfold MD_isTurn
  refine LOOP_up (fun x (_ : Unit) => nI x) n (by omega) (fun x _ => ∀ j, j < x → trnX S ma n f j = true) (fun o => o = _) ?_ ?_ 0 () (by omega) (fun j hj => by omega)
  · rintro x - ag hx hJ ih
    show MD_isTurn_L2 M _ ag (nI x) = _
    unfold MD_isTurn_L2
    have q1 := hfn x hx
    have m1 := hm3 x (by omega)
    have m2 := hm3 (f x) (by omega)
    have hbad : trnX S ma n f x = false → some (0 : Int32) = some (cI (trnB S ma n f = true)) := fun hb => by
      rw [show trnB S ma n f = false from al_f hx hb]; rfl
    rw [hn, if_neg (by rw [nI_leI (by omega) (by omega)]; omega), if_pos ((inb_nI (by omega)).mpr (by omega)), if_pos ((inb_nI (by omega)).mpr (by omega)), rd_nI (by omega), hf x hx, if_pos ((inb_nI (by omega)).mpr (by omega)), rd_nI (by omega), rd_nI (by omega), hm x (by omega), hm (f x) (by omega)]
    by_cases c : ma x = ma (f x)
    · rw [if_pos (by rw [c])]
      refine LOOP_up (fun z (_ : Unit) => nI z) n (by omega) (fun z _ => ∀ j, j < z → trnZ S f x j = true) (fun o => o = _) ?_ ?_ 0 () (by omega) (fun j hj => by omega)
      · rintro z - ag' hz hJ' ih'
        show MD_isTurn_L34 (nI x) M _ ag' (nI z) = _
        unfold MD_isTurn_L34
        have q2 := hfn z hz
        rw [hn, if_neg (by rw [nI_leI (by omega) (by omega)]; omega)]
        refine LOOP_up (fun k (_ : Unit) => nI k) 3 (by omega) (fun k _ => ∀ j, j < k → (sg S j x z == sg S j (f x) (f z)) = true) (fun o => o = _) ?_ ?_ 0 () (by omega) (fun j hj => by omega)
        · rintro k - ag'' hk hJ'' ih''
          show MD_isTurn_L44 (nI x) (nI z) M _ ag'' (nI k) = _
          unfold MD_isTurn_L44
          rw [if_neg (by rw [show (3 : Int32) = nI 3 from rfl, nI_leI (by omega) (by omega)]; omega), MD_strong_eq h hk (by omega) (by omega), bind_s, if_pos ((inb_nI (by omega)).mpr (by omega)), if_pos ((inb_nI (by omega)).mpr (by omega)), rd_nI (by omega), rd_nI (by omega), hf x hx, hf z hz, MD_strong_eq h hk (by omega) (by omega), bind_s]
          have s1 := sg_lt h hk (x := x) (z := z) (by omega) (by omega)
          have s2 := sg_lt h hk (x := f x) (z := f z) (by omega) (by omega)
          by_cases c2 : sg S k x z = sg S k (f x) (f z)
          · rw [if_pos (by rw [c2]), nI_1]
            refine ih'' () (fun j hj => ?_)
            by_cases e : j = k
            · subst e; exact beq_iff_eq.mpr c2
            · exact hJ'' j (by omega)
          · rw [if_neg (by rw [nI_eq (by omega) (by omega)]; exact c2)]
            refine hbad ?_
            unfold trnX
            rw [al_f hz (show trnZ S f x z = false from al_f hk (beq_eq_false_iff_ne.mpr c2)), Bool.and_false]
        · rintro - ag'' hJ''
          show MD_isTurn_L44 (nI x) (nI z) M _ ag'' (nI 3) = _
          unfold MD_isTurn_L44
          rw [if_pos (by decide), nI_1]
          refine ih' () (fun j hj => ?_)
          by_cases e : j = z
          · subst e; exact al_iff.mpr hJ''
          · exact hJ' j (by omega)
      · rintro - ag' hJ'
        show MD_isTurn_L34 (nI x) M _ ag' (nI n) = _
        unfold MD_isTurn_L34
        rw [hn, if_pos (by rw [nI_leI (by omega) (by omega)]; omega), nI_1]
        refine ih () (fun j hj => ?_)
        by_cases e : j = x
        · subst e
          unfold trnX
          rw [beq_iff_eq.mpr c, Bool.true_and]; exact al_iff.mpr hJ'
        · exact hJ j (by omega)
    · rw [if_neg (by rw [nI_eq (by omega) (by omega)]; exact c)]
      refine hbad ?_
      unfold trnX
      rw [beq_eq_false_iff_ne.mpr c, Bool.false_and]
  · rintro - ag hJ
    show MD_isTurn_L2 M _ ag (nI n) = _
    unfold MD_isTurn_L2
    rw [hn, if_pos (by rw [nI_leI (by omega) (by omega)]; omega), show trnB S ma n f = true from al_iff.mpr hJ]; rfl
/-- where some turn of the list brings x to y: a bit at 7 x + y -/
def mvL (S ma : Nat → Nat) (n : Nat) (l : List Nat) (c : Nat) : Bool := l.any (fun m => trnB S ma n (dg n m) && exB n (fun x => 7 * x + dg n m x == c))
theorem mvL_PL {S ma : Nat → Nat} {n x y : Nat} (h7 : n ≤ 7) (hx : x < n) (hy : y < n) : mvL S ma n (PL n) (7 * x + y) = mvB S ma n x y := by
  have e : ∀ m, m ∈ PL n → exB n (fun u => 7 * u + dg n m u == 7 * x + y) = (dg n m x == y) := fun m hm => by
    have hp := (PL_inv h7 hm).1
    by_cases c : dg n m x = y
    · rw [beq_iff_eq.mpr c]
      exact exB_iff.mpr ⟨x, hx, by rw [c]; exact beq_self_eq_true _⟩
    · rw [beq_eq_false_iff_ne.mpr c]
      refine b_f (fun z => ?_)
      obtain ⟨u, hu, q⟩ := exB_iff.mp z
      have q := beq_iff_eq.mp q
      have := hp.1 u hu
      have h1 : u = x := by omega
      subst h1
      omega
  unfold mvL mvB
  rcases hb : (PL n).any (fun m => trnB S ma n (dg n m) && dg n m x == y) with _ | _
  · rw [List.any_eq_false] at hb ⊢
    intro m hm
    rw [e m hm]; exact hb m hm
  · rw [List.any_eq_true] at hb ⊢
    obtain ⟨m, hm, q⟩ := hb
    exact ⟨m, hm, by rw [e m hm]; exact q⟩
def nT (S ma : Nat → Nat) (n : Nat) (l : List Nat) : Nat := (l.filter (fun m => trnB S ma n (dg n m))).length
theorem nT_a {S ma : Nat → Nat} {n m : Nat} {l : List Nat} : nT S ma n (l ++ [m]) = nT S ma n l + if trnB S ma n (dg n m) = true then 1 else 0 := by
  unfold nT
  rw [List.filter_append, List.length_append]
  by_cases c : trnB S ma n (dg n m) = true
  · rw [if_pos c, List.filter_cons_of_pos (p := fun m => trnB S ma n (dg n m)) c]; rfl
  · rw [if_neg c, List.filter_cons_of_neg (p := fun m => trnB S ma n (dg n m)) c]; rfl
theorem mvL_a {S ma : Nat → Nat} {n m c : Nat} {l : List Nat} : mvL S ma n (l ++ [m]) c = (mvL S ma n l c || (trnB S ma n (dg n m) && exB n (fun x => 7 * x + dg n m x == c))) := by
  unfold mvL
  rw [List.any_append, List.any_cons, List.any_nil, Bool.or_false]
set_option maxHeartbeats 1000000 in
theorem MD_findTurns_wp {σ : Sg} {M : Mem} (hw : WF σ) (h : RM M σ) : wp (MD_findTurns M) (fun r => Fr [49, 54, 57] M r.2 ∧ r.1 = nI (nT (sS σ) σ.2.2.2.2.2.1 σ.1 (PL σ.1)) ∧ ∀ x y, x < σ.1 → y < σ.1 → r.2 57 (7 * x + y) = cI (mvB (sS σ) σ.2.2.2.2.2.1 σ.1 x y = true)) := by
  have hn : M 33 8 = nI σ.1 := h.1
  have h1 := hw.1
  have h7 : σ.1 ≤ 7 := hw.2.1
  have hwf : TWF σ.1 σ.2.2.2.2.2.1 (sS σ) := TWF.of hw (y := σ.2.1)
  unfold MD_findTurns
  rw [show M 33 10 = nI σ.2.1 from h.2.1]
  refine wp_bind (MD_look hw.2.2.1 hw h) (fun M1 hM1 => ?_)
  obtain ⟨f1, t1⟩ := hM1
  have r1 := h.fr (f1.mo SMR49)
  have tm1 : TM M1 σ.1 σ.2.2.2.2.2.1 (sS σ) := TM.of r1 t1
  obtain ⟨n, hN⟩ : ∃ n, n = σ.1 := ⟨_, rfl⟩
  obtain ⟨ma, hma⟩ : ∃ ma, ma = σ.2.2.2.2.2.1 := ⟨_, rfl⟩
  obtain ⟨S, hS⟩ : ∃ S, S = sS σ := ⟨_, rfl⟩
  rw [← hN, ← hma, ← hS] at hwf tm1 ⊢
  rw [← hN] at h1 h7
  refine LOOP_up (fun c (t : Mem) => (nI c, t)) 49 (by omega) (fun c t => Fr [57] M1 t ∧ ∀ j, j < c → t 57 j = 0) (fun o => wp o _) ?_ ?_ 0 M1 (by omega) ⟨Fr.rf, fun j hj => by omega⟩
  · rintro c t ag hc ⟨hf, g⟩ ih
    show wp (MD_findTurns_L10 _ ag (nI c) t) _
    unfold MD_findTurns_L10
    rw [if_neg (by rw [show (49 : Int32) = nI 49 from rfl, nI_leI (by omega) (by omega)]; omega), if_pos ((inb_nI (by omega)).mpr (by omega)), nm_e', wr_nI (by omega), nI_1]
    refine ih _ ⟨hf.tr (Fr.st (by simp)), fun j hj => ?_⟩
    rw [st2_s]
    by_cases e : j = c
    · subst e; rw [upd_s]; rfl
    · rw [upd_n e]; exact g j (by omega)
  · rintro t ag ⟨hf, g⟩
    show wp (MD_findTurns_L10 _ ag (nI 49) t) _
    unfold MD_findTurns_L10
    rw [if_pos (by decide)]
    refine wp_bind MD_firstNames_wp (fun M5 hM5 => ?_)
    obtain ⟨f5, a5⟩ := hM5
    have g5 : Fr [49, 54, 57] M M5 := ((f1.mo (by simp)).tr (hf.mo (by simp))).tr (f5.mo (by simp))
    have k5 : Fr [54, 57] M1 M5 := (hf.mo (by simp)).tr (f5.mo (by simp))
    refine PL_loop h1 h7 (fun r (t : Int32 × Mem) => (t.1, r, t.2)) (fun done t => Fr [54, 57] M1 t.2 ∧ t.1 = nI (nT S ma n done) ∧ ∀ c, c < 49 → t.2 57 c = cI (mvL S ma n done c = true)) (fun t m => AR t.2 54 n (dg n m)) (fun o => wp o _) ?_ ?_ (0, M5) ⟨k5, rfl, fun c hc => by show M5 57 c = _; rw [f5 57 (by decide)]; exact g c hc⟩ ((a5.le h7).cg (fun x hx => (dg_id h7 x hx).symm))
    · rintro done m l ⟨cn, t6⟩ ag' e ⟨hf6, ec, g6⟩ ha ih'
      dsimp only at hf6 ec g6 ha
      subst ec
      show wp (MD_findTurns_L37 _ ag' _ 1 t6) _
      unfold MD_findTurns_L37
      have hm : m ∈ PL n := by rw [e]; exact List.mem_append_right _ List.mem_cons_self
      have hp := (PL_inv h7 hm).1
      have tm6 := tm1.fr hf6 (by decide) (by decide) (by decide)
      rw [if_neg one_ne0, MD_isTurn_eq tm6.1 tm6.2.1 h7 tm6.2.2 hwf.2.2.1 ha hp.1, bind_s, jp_e]
      have hgo : ∀ t7, Fr [57] t6 t7 → (∀ c, c < 49 → t7 57 c = cI (mvL S ma n (done ++ [m]) c = true)) → wp (bnd2 (MD_nextNames (t7 33 8) t7) fun r_2 M8 => ag' (nI (nT S ma n (done ++ [m])), r_2, M8)) _ := fun t7 f7 g7 => by
        rw [show t7 33 8 = nI n from (congrFun (f7 33 (by decide)) 8).trans tm6.2.1]
        refine wp_bnd2 (MD_nx h1 h7 e (ha.fr (f7 54 (by decide)))) (fun r M8 h8 => ?_)
        obtain ⟨f8, c8⟩ := h8
        refine ih' (nI (nT S ma n (done ++ [m])), M8) r ⟨(hf6.tr (f7.mo (by simp))).tr (f8.mo (by simp)), rfl, fun c hc => ?_⟩ c8
        exact (congrFun (f8 57 (by decide)) c).trans (g7 c hc)
      by_cases c : trnB S ma n (dg n m) = true
      · rw [if_neg (by rw [cI_0]; exact not_not_intro c)]
        refine LOOP_up (fun x (t : Mem) => (nI x, t)) n (by omega) (fun x t => Fr [57] t6 t ∧ ∀ j, j < 49 → t 57 j = cI ((mvL S ma n done j || exB x (fun x => 7 * x + dg n m x == j)) = true)) (fun o => wp o _) ?_ ?_ 0 t6 (by omega) ⟨Fr.rf, fun j hj => by rw [g6 j hj, show exB 0 (fun x => 7 * x + dg n m x == j) = false from rfl, Bool.or_false]⟩
        · rintro x t ag3 hx ⟨hf3, g3⟩ ih3
          show wp (MD_findTurns_L53 _ ag3 (nI x) t) _
          unfold MD_findTurns_L53
          have q := hp.1 x hx
          rw [show t 33 8 = nI n from (congrFun (hf3 33 (by decide)) 8).trans tm6.2.1, if_neg (by rw [nI_leI (by omega) (by omega)]; omega), if_pos ((inb_nI (by omega)).mpr (by omega)), rd_nI (by omega), hf3 54 (by decide), ha x hx, show (7 : Int32) = nI 7 from rfl, pk_mul, nI_add, if_pos ((inb_nI (by omega)).mpr (by omega)), nm_e', wr_nI (by omega), nI_1]
          refine ih3 _ ⟨hf3.tr (Fr.st (by simp)), fun j hj => ?_⟩
          rw [st2_s]
          by_cases e3 : j = 7 * x + dg n m x
          · rw [e3, upd_s, show exB (x + 1) (fun u => 7 * u + dg n m u == 7 * x + dg n m x) = true from exB_iff.mpr ⟨x, by omega, beq_self_eq_true _⟩, Bool.or_true]; rfl
          · rw [upd_n e3, g3 j hj]
            refine cI_iff ?_
            rw [show exB (x + 1) (fun u => 7 * u + dg n m u == j) = exB x (fun u => 7 * u + dg n m u == j) from ?_]
            unfold exB
            rw [al_s, show (!(7 * x + dg n m x == j)) = true from by rw [beq_eq_false_iff_ne.mpr (fun z => e3 z.symm)]; rfl, Bool.and_true]
        · rintro t ag3 ⟨hf3, g3⟩
          show wp (MD_findTurns_L53 _ ag3 (nI n) t) _
          unfold MD_findTurns_L53
          rw [show t 33 8 = nI n from (congrFun (hf3 33 (by decide)) 8).trans tm6.2.1, if_pos (by rw [nI_leI (by omega) (by omega)]; omega), nI_1, show nT S ma n done + 1 = nT S ma n (done ++ [m]) from by rw [nT_a, if_pos c]]
          refine hgo t hf3 (fun j hj => ?_)
          rw [mvL_a, c, Bool.true_and]; exact g3 j hj
      · rw [if_pos (by rw [cI_0]; exact c), show nT S ma n done = nT S ma n (done ++ [m]) from by rw [nT_a, if_neg c]; rfl]
        refine hgo t6 Fr.rf (fun j hj => ?_)
        rw [mvL_a, b_f c, Bool.false_and, Bool.or_false]; exact g6 j hj
    · rintro ⟨cn, t6⟩ ag' ⟨hf6, ec, g6⟩
      dsimp only at hf6 ec g6
      subst ec
      show wp (MD_findTurns_L37 _ ag' _ 0 t6) _
      unfold MD_findTurns_L37
      rw [if_pos rfl]
      refine wp_some ⟨(f1.mo (by simp)).tr (hf6.mo (by simp)), rfl, fun x y hx hy => ?_⟩
      rw [← mvL_PL h7 hx hy]
      exact g6 _ (by omega)
def tT (σ : Sg) : List Nat → Nat := nT (sS σ) σ.2.2.2.2.2.1 σ.1
def mv (σ : Sg) : Nat → Nat → Bool := mvB (sS σ) σ.2.2.2.2.2.1 σ.1
def R_renamings (σ : Sg) : Ans := (σ, nI (tT σ (PL σ.1)))
def R_moves (σ : Sg) (v w : Int32) : Ans := if inrB v σ.1 = true ∧ inrB w σ.1 = true then (σ, cI (mv σ v.toInt.toNat w.toInt.toNat = true)) else no σ 1
def R_orbits (σ : Sg) : Ans := (σ, nI (num (lb (fun y x => mv σ y x)) σ.1))
theorem SMRt : ∀ a ∈ [49, 54, 57], a ∈ SMR := by decide
theorem MD_renamings_wp {σ : Sg} {M : Mem} (hw : WF σ) (h : RM M σ) : wp (MD_renamings M) (EM (R_renamings σ) M) := by
  unfold MD_renamings R_renamings
  refine wp_bnd2 (MD_findTurns_wp hw h) (fun r M1 h1 => ?_)
  obtain ⟨f1, e1, -⟩ := h1
  rw [show r = _ from e1]
  exact wp_some (em_ok (h.fr (f1.mo SMRt)) (f1.mo SMRt).lo)
theorem MD_moves_wp {σ : Sg} {M : Mem} (v w : Int32) (hw : WF σ) (h : RM M σ) : wp (MD_moves v w M) (EM (R_moves σ v w) M) := by
  have h7 : σ.1 ≤ 7 := hw.2.1
  unfold MD_moves R_moves
  rw [MD_isPerson_eq h.1 h7, bind_s, MD_isPerson_eq h.1 h7, jp_e]
  simp only [cI_0, bind_s]
  by_cases c1 : inrB v σ.1 = true
  · rw [if_neg (not_not_intro c1)]
    by_cases c2 : inrB w σ.1 = true
    · rw [if_neg (not_not_intro c2), if_pos ⟨c1, c2⟩]
      obtain ⟨x, hx, rfl⟩ := inr_of (inrB_iff.mp c1) (by omega)
      obtain ⟨y, hy, rfl⟩ := inr_of (inrB_iff.mp c2) (by omega)
      rw [nat3 (by omega), nat3 (by omega)]
      refine wp_bnd2 (MD_findTurns_wp hw h) (fun r M1 h1 => ?_)
      obtain ⟨f1, -, e1⟩ := h1
      have hok : ∀ a, EM (σ, a) M (a, M1) := fun a => em_ok (h.fr (f1.mo SMRt)) (f1.mo SMRt).lo
      rw [show (7 : Int32) = nI 7 from rfl, pk_mul, nI_add, if_pos ((inb_nI (by omega)).mpr (by omega)), rd_nI (by omega), show M1 57 (7 * x + y) = _ from e1 x y hx hy]
      unfold mv
      by_cases c : mvB (sS σ) σ.2.2.2.2.2.1 σ.1 x y = true
      · rw [if_neg (by rw [cI_0]; exact not_not_intro c), cI_t c]; exact wp_some (hok 1)
      · rw [if_pos (by rw [cI_0]; exact c), cI_f c]; exact wp_some (hok 0)
    · rw [if_pos c2, if_neg (fun z => c2 z.2)]
      exact MD_no1 h rfl_lo
  · rw [if_pos c1, if_neg (fun z => c1 z.1)]
    exact MD_no1 h rfl_lo
theorem SMRo : ∀ a ∈ [49, 52, 53, 54, 57], a ∈ SMR := by decide
set_option maxHeartbeats 1000000 in
theorem MD_orbits_wp {σ : Sg} {M : Mem} (hw : WF σ) (h : RM M σ) : wp (MD_orbits M) (EM (R_orbits σ) M) := by
  have h7 : σ.1 ≤ 7 := hw.2.1
  unfold MD_orbits R_orbits
  refine wp_bnd2 (MD_findTurns_wp hw h) (fun r M1 h1 => ?_)
  obtain ⟨f1, -, e1⟩ := h1
  dsimp only at f1 e1
  have hn : M1 33 8 = nI σ.1 := (congrFun (f1 33 (by decide)) 8).trans h.1
  obtain ⟨n, hN⟩ : ∃ n, n = σ.1 := ⟨_, rfl⟩
  rw [← hN] at h7 hn e1
  have hmv : ∀ x y, x < n → y < n → mvB (sS σ) σ.2.2.2.2.2.1 n x y = mv σ x y := fun _ _ _ _ => by rw [hN]; rfl
  obtain ⟨rr, hr⟩ : ∃ rr : Nat → Nat → Bool, rr = fun y x => mv σ y x := ⟨_, rfl⟩
  rw [← hr, ← hN]
  have hsym : ∀ x y, x < n → y < n → mv σ x y = rr y x := fun x y hx hy => by
    rw [hr]
    show mv σ x y = mv σ y x
    have q1 : mv σ x y = true → mv σ y x = true := fun z => mv_symm hw.2.1 (by omega) (by omega) z
    have q2 : mv σ y x = true → mv σ x y = true := fun z => mv_symm hw.2.1 (by omega) (by omega) z
    cases c1 : mv σ x y with
    | true => rw [q1 c1]
    | false =>
      cases c2 : mv σ y x with
      | true => rw [q2 c2] at c1; cases c1
      | false => rfl
  refine LOOP_up (fun x (t : Mem) => (nI x, t)) n (by omega) (fun x t => Fr [52] M1 t ∧ AR t 52 x (fr rr)) (fun o => wp o _) ?_ ?_ 0 M1 (by omega) ⟨Fr.rf, fun j hj => by omega⟩
  · rintro x t ag hx ⟨hf, g⟩ ih
    show wp (MD_orbits_L7 _ ag (nI x) t) _
    unfold MD_orbits_L7
    rw [show t 33 8 = nI n from (congrFun (hf 33 (by decide)) 8).trans hn, if_neg (by rw [nI_leI (by omega) (by omega)]; omega), if_pos ((inb_nI (by omega)).mpr (by omega)), nm_e', nm_e', wr_nI (by omega)]
    refine LOOP_down (fun y (t : Mem) => (nI y - 1, t)) (fun y t => y ≤ x ∧ Fr [52] M1 t ∧ AR t 52 x (fr rr) ∧ ∃ q, t 52 x = nI q ∧ y ≤ q ∧ q ≤ x ∧ (∀ z, y ≤ z → z < q → rr z x = false) ∧ (q < x → rr q x = true)) (fun o => wp o _) ?_ ?_ x _ (by omega) ⟨Nat.le_refl _, hf.tr (Fr.st (by simp)), fun j hj => by rw [st2_s, upd_n (by omega)]; exact g j hj, x, by rw [st2_s, upd_s], Nat.le_refl _, Nat.le_refl _, fun z h1 h2 => by omega, fun z => by omega⟩
    · rintro y t2 ag' ⟨hy, hf2, g2, q, b1, b2, b3, b4, b5⟩ ih'
      show wp (MD_orbits_L26 (nI x) _ ag' (nI (y + 1) - 1) t2) _
      unfold MD_orbits_L26
      rw [nI_pred, if_neg (nI_pos (by omega)), show (7 : Int32) = nI 7 from rfl, pk_mul, nI_add, if_pos ((inb_nI (by omega)).mpr (by omega)), rd_nI (by omega), hf2 57 (by decide), e1 x y hx (by omega), hmv x y hx (by omega), hsym x y hx (by omega), i_m1]
      by_cases c : rr y x = true
      · rw [if_neg (by rw [cI_0]; exact not_not_intro c), if_pos ((inb_nI (by omega)).mpr (by omega)), nm_e', wr_nI (by omega)]
        refine ih' _ ⟨by omega, hf2.tr (Fr.st (by simp)), fun j hj => by rw [st2_s, upd_n (by omega)]; exact g2 j hj, y, by rw [st2_s, upd_s], Nat.le_refl _, by omega, fun z h1 h2 => by omega, fun _ => c⟩
      · rw [if_pos (by rw [cI_0]; exact c), if_pos ((inb_nI (by omega)).mpr (by omega)), if_pos ((inb_nI (by omega)).mpr (by omega)), nm_e', wr_nI (by omega), rd_nI (by omega), b1]
        refine ih' _ ⟨by omega, hf2.tr (Fr.st (by simp)), fun j hj => by rw [st2_s, upd_n (by omega)]; exact g2 j hj, q, by rw [st2_s, upd_s], by omega, b3, fun z h1 h2 => ?_, b5⟩
        by_cases e : z = y
        · subst e; exact b_f c
        · exact b4 z (by omega) h2
    · rintro t2 ag' ⟨hy, hf2, g2, q, b1, b2, b3, b4, b5⟩
      show wp (MD_orbits_L26 (nI x) _ ag' (nI 0 - 1) t2) _
      unfold MD_orbits_L26
      rw [if_pos down0, nI_1]
      refine ih _ ⟨hf2, fun j hj => ?_⟩
      by_cases e : j = x
      · subst e
        rw [b1]
        congr 1
        unfold fr
        by_cases c : q < j
        · exact (ff_eq c (b5 c) (fun z hz => b4 z (Nat.zero_le _) hz)).symm
        · rw [ff_none (fun z hz => b4 z (Nat.zero_le _) (by omega))]; omega
      · exact g2 j (by omega)
  · rintro t ag ⟨hf, g⟩
    show wp (MD_orbits_L7 _ ag (nI n) t) _
    unfold MD_orbits_L7
    have hn2 : t 33 8 = nI n := (congrFun (hf 33 (by decide)) 8).trans hn
    rw [hn2, if_pos (by rw [nI_leI (by omega) (by omega)]; omega)]
    refine wp_bnd2 (MD_number_wp (k := 52) (by omega) (by omega) (by omega) rfl h7 hn2 g (fun x hx => by have := fr_le rr x; omega)) (fun r2 M9 h9 => ?_)
    obtain ⟨f9, e9⟩ := h9
    have hF : Fr SMR M M9 := ((f1.mo SMRt).tr (hf.mo (by decide))).tr (f9.mo (by decide))
    rw [show r2 = _ from e9, show num (cn (fr rr)) n = num (lb rr) n from num_cg (fun x hx => ?_)]
    · exact wp_some (em_ok (h.fr hF) hF.lo)
    · rw [← cn_rt rr x]
      refine cn_cg (n := n) (fun a b ha hb => ?_) x hx
      have q : ∀ u, u < n → rt rr u = fr rr u := fun u hu => by rw [hr]; exact mv_rt hw.2.1 u (by omega)
      rw [q a ha, q b hb]
