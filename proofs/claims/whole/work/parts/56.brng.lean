/-! by hand: brings; renamings, moves, orbits of the class -/
theorem okK_cg {S ma g g' : Nat → Nat} {fx x y d p : Nat} (h : ∀ e, e < d → g e = g' e) : okK S ma fx x y g d p = okK S ma fx x y g' d p := by
  unfold okK kaB
  rw [us_cg h, al_cg (fun e he => by rw [h e he])]
theorem kpB_iff {S : Nat → Nat} {x z x' z' : Nat} : kpB S x z x' z' = true ↔ ∀ k, k < 3 → sg S k x z = sg S k x' z' ∧ sg S k z x = sg S k z' x' := by
  unfold kpB
  rw [al_iff]
  constructor
  · intro h k hk
    have := h k hk
    rw [Bool.and_eq_true, beq_iff_eq, beq_iff_eq] at this
    exact this
  · intro h k hk
    rw [Bool.and_eq_true, beq_iff_eq, beq_iff_eq]
    exact h k hk
theorem okK_sol {S ma f g : Nat → Nat} {n fx x y d : Nat} (hx : x < n) (h : GG S ma n fx f) (e : f x = y) (hd : d < n) (hg : ∀ e, e < d → f e = g e) : okK S ma fx x y g d (f d) = true := by
  obtain ⟨h1, h2, h3⟩ := h
  have ht := trnB_iff.mp h2
  unfold okK
  simp only [Bool.and_eq_true]
  refine ⟨⟨⟨?_, ?_⟩, ?_⟩, ?_⟩
  · unfold duB
    by_cases c : d < fx
    · rw [if_pos c]; exact beq_iff_eq.mpr (h3 d c)
    · rw [if_neg c]
      by_cases c2 : d = x
      · subst c2
        rw [e, beq_self_eq_true, beq_self_eq_true]; rfl
      · rw [beq_eq_false_iff_ne.mpr c2, show (f d == y) = false from beq_eq_false_iff_ne.mpr (fun z => c2 (h1.2 d x hd hx (by rw [z, e])))]; rfl
  · rw [show us g d (f d) = false from b_f (fun z => ?_)]
    · rfl
    · obtain ⟨u, hu, q⟩ := us_iff.mp z
      rw [← hg u hu] at q
      have := h1.2 u d (by omega) hd q
      omega
  · unfold kaB
    rw [Bool.and_eq_true, beq_iff_eq, al_iff]
    refine ⟨(ht d hd).1, fun u hu => kpB_iff.mpr (fun k hk => ?_)⟩
    rw [← hg u hu]
    exact ⟨(ht d hd).2 u (by omega) k hk, (ht u (by omega)).2 d hd k hk⟩
  · refine kpB_iff.mpr (fun k hk => ?_)
    rw [← e]
    exact ⟨(ht d hd).2 x hx k hk, (ht x hx).2 d hd k hk⟩
theorem okK_all {S ma g : Nat → Nat} {n fx x y : Nat} (hx : x < n) (hf : fx ≤ x) (h0 : ∀ k u, k < 3 → u < n → sg S k u u = 0) (hI : IJ n n g) (h : ∀ d, d < n → okK S ma fx x y g d (g d) = true) : GG S ma n fx g ∧ g x = y := by
  have hk : ∀ d, d < n → (duB fx d x (g d) y = true ∧ ma d = ma (g d) ∧ ∀ u, u < d → ∀ k, k < 3 → sg S k d u = sg S k (g d) (g u) ∧ sg S k u d = sg S k (g u) (g d)) := fun d hd => by
    have h1 := h d hd
    unfold okK kaB at h1
    simp only [Bool.and_eq_true, beq_iff_eq, al_iff] at h1
    exact ⟨h1.1.1.1, h1.1.2.1, fun u hu => kpB_iff.mp (h1.1.2.2 u hu)⟩
  refine ⟨⟨hI, trnB_iff.mpr (fun d hd => ⟨(hk d hd).2.1, fun z hz k hkk => ?_⟩), fun e he => ?_⟩, ?_⟩
  · rcases Nat.lt_trichotomy z d with c | c | c
    · exact ((hk d hd).2.2 z c k hkk).1
    · subst c
      rw [h0 k z hkk hz, h0 k (g z) hkk (hI.1 z hz)]
    · exact ((hk z hz).2.2 d c k hkk).2
  · have := (hk e (by omega)).1
    unfold duB at this
    rw [if_pos he] at this
    exact beq_iff_eq.mp this
  · have := (hk x hx).1
    unfold duB at this
    rw [if_neg (by omega), beq_self_eq_true] at this
    have := beq_iff_eq.mp this
    exact beq_iff_eq.mp this.symm
set_option maxHeartbeats 1000000 in
theorem Tu_brings_wp {M : Mem} {n fx x y : Nat} {S ma : Nat → Nat} (hw : TWF n ma S) (h : TW M n ma S) (hx : x < n) (hy : y < n) (hf : fx ≤ x) : wp (Tu_brings (nI fx) (nI x) (nI y) M) (fun r => Fr [16, 17] M r.2 ∧ r.1 = cI (brg S ma n fx x y = true)) := by
  have h7 : n ≤ 7 := hw.2.1
  have hbr := brg_iff (S := S) (ma := ma) (y := y) h7 (show fx ≤ n by omega) hx
  unfold Tu_brings
  rw [To_sameMark_eq h.2.2 hw.2.2.1 (by omega) (by omega), bind_s]
  by_cases c : ma x = ma y
  · rw [if_neg (by rw [cI_0]; exact not_not_intro c)]
    refine wp_bind (Tu_begin_wp (n := n) (g := fun _ => 0)) (fun M1 h1 => ?_)
    obtain ⟨f1, s1⟩ := h1
    have hi0 := ptl_0 (n := n) (g := fun _ => 0) hw.1 h7
    refine LOOP_inv (fun D (s : Int32 × Mem) => ∃ st, s.1 = nI st ∧ st + D ≤ 100000 ∧ Fr [16, 17] M s.2 ∧ ((∃ d c g, SE s.2 n d c g ∧ D = ptl n d c g ∧ (∀ e, e < d → okK S ma fx x y g e (g e) = true) ∧ ∀ f, GG S ma n fx f → f x = y → ahd f d c g) ∨ (s.2 16 3 = -1 ∧ ∀ f, GG S ma n fx f → f x = y → False))) (fun o => wp o _) ?_ FU (ptl n 0 0 (fun _ => 0)) (0, M1) (by unfold FU; omega) ⟨0, rfl, by omega, f1, Or.inl ⟨0, 0, _, s1, rfl, fun e he => by omega, fun f _ _ => ahd_0⟩⟩
    rintro D ⟨v5, t⟩ ag ⟨st, e5, hD, hft, hcase⟩ ih
    dsimp only at e5 hft hcase
    subst e5
    show wp (Tu_brings_L19 (nI fx) (nI x) (nI y) _ ag (nI st) t) _
    unfold Tu_brings_L19
    have tt := h.fr hft (by decide) (by decide) (by decide)
    rw [if_neg (by rw [show (1000000 : Int32) = nI 1000000 from rfl, nI_leI (by omega) (by omega)]; omega)]
    rcases hcase with ⟨d, c0, g, hs, hDe, hok, hah⟩ | ⟨e16, hno⟩
    · have hd := hs.1
      rw [hs.2.2.2.1, if_neg (nI_pos (by omega)), tt.2.1]
      by_cases cd : d = n
      · subst cd
        rw [if_pos (by rw [nI_leI (by omega) (by omega)]; omega)]
        show wp (if (t 16 3) < (t 1 2) then some (0, t) else some (1, t)) _
        rw [hs.2.2.2.1, tt.2.1, if_neg (by rw [nI_ltI (by omega) (by omega)]; omega)]
        refine wp_some ⟨hft, ?_⟩
        have hsol := okK_all hx hf (fun k u hk hu => hw.d k u u hk (by omega) (by omega) rfl) hs.2.2.1 hok
        rw [cI_t (hbr.mpr ⟨g, hsol.1, hsol.2⟩)]
      · rw [if_neg (by rw [nI_leI (by omega) (by omega)]; omega)]
        refine wp_bnd2 (Tu_nextKeeping_wp hw tt (by omega) hs hx hy (by omega)) (fun r3 M3 h3 => ?_)
        obtain ⟨f3, l3, nx⟩ := h3
        dsimp only at f3 l3 nx
        rcases nx with ⟨p, hcp, hp, rfl, okp, hmin⟩ | ⟨rfl, hnone⟩
        · have hu : us g d p = false := by
            unfold okK at okp
            simp only [Bool.and_eq_true, Bool.not_eq_true'] at okp
            exact okp.1.1.2
          refine wp_bind (Tu_fwd h7 l3 hp hu) (fun M4 h4 => ?_)
          obtain ⟨f4, s4⟩ := h4
          rw [nI_1]
          have hlt := ptl_push hs.2.2.1 (by omega) hcp hp hu
          refine ih _ (nI (st + 1), M4) (by rw [hDe]; exact hlt) ⟨st + 1, rfl, by omega, (hft.tr (f3.mo (by simp))).tr f4, Or.inl ⟨d + 1, 0, _, s4, rfl, fun e he => ?_, fun f hG hfe => ahd_push (hah f hG hfe) (fun ha hc => ?_)⟩⟩
          · by_cases q : e = d
            · rw [q, pg_s, okK_cg (g' := g) (fun e' he' => pg_l he')]; exact okp
            · rw [pg_n q, okK_cg (g' := g) (fun e' he' => pg_l (by omega))]; exact hok e (by omega)
          · have h5 := okK_sol hx hG hfe (show d < n by omega) ha
            rcases Nat.lt_or_ge (f d) p with q | q
            · rw [hmin _ hc q] at h5; cases h5
            · exact q
        · refine wp_bind (Tu_back h7 l3) (fun M4 h4 => ?_)
          obtain ⟨f4, h4⟩ := h4
          rw [nI_1]
          have hnot : ∀ f, GG S ma n fx f → f x = y → ¬ ((∀ e, e < d → f e = g e) ∧ c0 ≤ f d) := fun f hG hfe ⟨ha, hc⟩ => by
            have h5 := okK_sol hx hG hfe (show d < n by omega) ha
            rw [hnone _ hc (hG.1.1 d (by omega))] at h5; cases h5
          have hfr : Fr [16, 17] M M4 := (hft.tr (f3.mo (by simp))).tr (f4.mo (by simp))
          rcases h4 with ⟨rfl, e16⟩ | ⟨d', rfl, s4⟩
          · refine ih 0 (nI (st + 1), M4) (by rw [hDe]; exact ptl_pos) ⟨st + 1, rfl, ?_, hfr, Or.inr ⟨e16, fun f hG hfe => ahd_end (hah f hG hfe) (hnot f hG hfe)⟩⟩
            have := ptl_pos (n := n) (d := 0) (c := c0) (g := g)
            omega
          · have hlt := ptl_pop (n := n) (d := d') (c := c0) (g := g) (by omega)
            refine ih _ (nI (st + 1), M4) (by rw [hDe]; exact hlt) ⟨st + 1, rfl, by omega, hfr, Or.inl ⟨d', _, g, s4, rfl, fun e he => hok e (by omega), fun f hG hfe => ahd_pop (hah f hG hfe) (hnot f hG hfe)⟩⟩
    · rw [e16, if_pos m1_neg]
      show wp (if (t 16 3) < (t 1 2) then some (0, t) else some (1, t)) _
      rw [e16, tt.2.1, if_pos (by rw [i_lt, nI_toInt (by omega)]; have : (-1 : Int32).toInt = -1 := rfl; omega)]
      refine wp_some ⟨hft, ?_⟩
      rw [cI_f (fun z => ?_)]
      obtain ⟨f, hG, hfe⟩ := hbr.mp z
      exact hno f hG hfe
  · rw [if_pos (by rw [cI_0]; exact c)]
    refine wp_some ⟨Fr.rf, ?_⟩
    rw [cI_f (fun z => ?_)]
    obtain ⟨f, ⟨h1, h2, h3⟩, hfe⟩ := hbr.mp z
    rw [← hfe] at c
    exact c ((trnB_iff.mp h2) x hx).1
set_option maxHeartbeats 1000000 in
theorem Tu_howMany_wp {M : Mem} {n : Nat} {S ma : Nat → Nat} (hw : TWF n ma S) (h : TW M n ma S) : wp (Tu_howMany M) (fun r => Fr [16, 17] M r.2 ∧ r.1 = nI (prd S ma n n)) := by
  have h7 : n ≤ 7 := hw.2.1
  unfold Tu_howMany
  refine LOOP_up2 (fun x (a : Int32) (t : Mem) => (a, nI x, t)) n (by omega) (fun x a t => a = nI (prd S ma n x) ∧ Fr [16, 17] M t) (fun o => wp o _) ?_ ?_ 0 1 M (by omega) ⟨rfl, Fr.rf⟩
  · rintro x a t ag hx ⟨rfl, hf⟩ ih
    show wp (Tu_howMany_L4 _ ag (nI (prd S ma n x)) (nI x) t) _
    unfold Tu_howMany_L4
    have tt := h.fr hf (by decide) (by decide) (by decide)
    rw [tt.2.1, if_neg (by rw [nI_leI (by omega) (by omega)]; omega)]
    refine LOOP_up2 (fun y (a : Int32) (t : Mem) => (a, nI y, t)) n (by omega) (fun y a t => a = nI (sm y (fun y => if x ≤ y ∧ brg S ma n x x y = true then 1 else 0)) ∧ x ≤ y ∧ Fr [16, 17] M t) (fun o => wp o _) ?_ ?_ x 0 t (by omega) ⟨?_, Nat.le_refl _, hf⟩
    · rintro y a t2 ag' hy ⟨rfl, hxy, hf2⟩ ih'
      show wp (Tu_howMany_L18 (nI x) _ ag' _ (nI y) t2) _
      unfold Tu_howMany_L18
      have t3 := h.fr hf2 (by decide) (by decide) (by decide)
      rw [t3.2.1, if_neg (by rw [nI_leI (by omega) (by omega)]; omega)]
      refine wp_bnd2 (Tu_brings_wp hw t3 hx hy (Nat.le_refl _)) (fun r M3 h3 => ?_)
      obtain ⟨f3, e3⟩ := h3
      rw [show r = _ from e3]
      by_cases c : brg S ma n x x y = true
      · rw [if_neg (by rw [cI_0]; exact not_not_intro c), nI_1, nI_1]
        refine ih' _ M3 ⟨?_, by omega, hf2.tr f3⟩
        rw [sm_s, if_pos ⟨hxy, c⟩]
      · rw [if_pos (by rw [cI_0]; exact c), nI_1]
        refine ih' _ M3 ⟨?_, by omega, hf2.tr f3⟩
        rw [sm_s, if_neg (fun z => c z.2)]; rfl
    · rintro a t2 ag' ⟨rfl, hxy, hf2⟩
      show wp (Tu_howMany_L18 (nI x) _ ag' _ (nI n) t2) _
      unfold Tu_howMany_L18
      have t3 := h.fr hf2 (by decide) (by decide) (by decide)
      rw [t3.2.1, if_pos (by rw [nI_leI (by omega) (by omega)]; omega)]
      dsimp only
      rw [nm_e', pk_mul, nI_1]
      exact ih _ t2 ⟨rfl, hf2⟩
    · rw [sm_cg (g := fun _ => 0) (fun y hy => if_neg (fun z => by omega)), sm_0]; rfl
  · rintro a t ag ⟨rfl, hf⟩
    show wp (Tu_howMany_L4 _ ag _ (nI n) t) _
    unfold Tu_howMany_L4
    have tt := h.fr hf (by decide) (by decide) (by decide)
    rw [tt.2.1, if_pos (by rw [nI_leI (by omega) (by omega)]; omega)]
    exact wp_some ⟨hf, rfl⟩
theorem SCRt : ∀ a ∈ [16, 17], a ∈ SCR := by decide
theorem SP_renamings_wp {σ : Sg} {M : Mem} (hw : WF σ) (h : RC M σ) : wp (SP_renamings M) (EC (R_renamings σ) M) := by
  unfold SP_renamings R_renamings
  rw [show M 0 12 = nI σ.2.1 from h.2.1]
  refine wp_bind (SP_look hw.2.2.1 hw h) (fun M1 h1 => ?_)
  obtain ⟨f1, t1⟩ := h1
  have g1 := f1.mo SCR3
  have r1 := h.fr g1
  refine wp_bnd2 (Tu_howMany_wp (TWF.of hw) (TW.of r1 t1)) (fun r M2 h2 => ?_)
  obtain ⟨f2, e2⟩ := h2
  have g2 := f2.mo SCRt
  rw [show r = _ from e2, ← turns_prd hw.1 hw.2.1]
  exact wp_some (ec_ok (r1.fr g2) (g1.tr g2).hi)
theorem SP_moves_wp {σ : Sg} {M : Mem} (v w : Int32) (hw : WF σ) (h : RC M σ) : wp (SP_moves v w M) (EC (R_moves σ v w) M) := by
  have h7 : σ.1 ≤ 7 := hw.2.1
  unfold SP_moves R_moves
  rw [To_lives_eq h.1 h7, bind_s, To_lives_eq h.1 h7, jp_e]
  simp only [cI_0, bind_s]
  by_cases c1 : inrB v σ.1 = true
  · rw [if_neg (not_not_intro c1)]
    by_cases c2 : inrB w σ.1 = true
    · rw [if_neg (not_not_intro c2), if_pos ⟨c1, c2⟩]
      obtain ⟨x, hx, rfl⟩ := inr_of (inrB_iff.mp c1) (by omega)
      obtain ⟨y, hy, rfl⟩ := inr_of (inrB_iff.mp c2) (by omega)
      rw [nat3 (by omega), nat3 (by omega), show M 0 12 = nI σ.2.1 from h.2.1]
      refine wp_bind (SP_look hw.2.2.1 hw h) (fun M1 h1 => ?_)
      obtain ⟨f1, t1⟩ := h1
      have g1 := f1.mo SCR3
      have r1 := h.fr g1
      refine wp_bnd2 (Tu_brings_wp (fx := 0) (TWF.of hw) (TW.of r1 t1) hx hy (Nat.zero_le _)) (fun r M2 h2 => ?_)
      obtain ⟨f2, e2⟩ := h2
      have g2 := f2.mo SCRt
      have hok : ∀ a, EC (σ, a) M (a, M2) := fun a => ec_ok (r1.fr g2) (g1.tr g2).hi
      rw [show r = _ from e2, brg_mv]
      unfold mv
      by_cases c : mvB (sS σ) σ.2.2.2.2.2.1 σ.1 x y = true
      · rw [if_neg (by rw [cI_0]; exact not_not_intro c), cI_t c]; exact wp_some (hok 1)
      · rw [if_pos (by rw [cI_0]; exact c), cI_f c]; exact wp_some (hok 0)
    · rw [if_pos c2, if_neg (fun z => c2 z.2)]
      exact SP_no1 h rfl_hi
  · rw [if_pos c1, if_neg (fun z => c1 z.1)]
    exact SP_no1 h rfl_hi
set_option maxHeartbeats 1000000 in
theorem Tu_partByOrbit_wp {M : Mem} {n : Nat} {S ma : Nat → Nat} (hw : TWF n ma S) (h : TW M n ma S) : wp (Tu_partByOrbit M) (fun M' => Fr [16, 17, 30, 31] M M' ∧ PT M' 30 n (lb (fun y x => mvB S ma n y x))) := by
  have h7 : n ≤ 7 := hw.2.1
  unfold Tu_partByOrbit
  rw [h.2.1]
  refine wp_bind Pa_begin_eq (fun M2 hM2 => ?_)
  obtain ⟨f2, e1, e2⟩ := hM2
  obtain ⟨r, hr⟩ : ∃ r : Nat → Nat → Bool, r = fun y x => mvB S ma n y x := ⟨_, rfl⟩
  rw [← hr]
  refine LOOP_up (fun x (t : Mem) => (nI x, t)) n (by omega) (fun x t => Fr [16, 17, 30, 31] M t ∧ t 30 1 = nI n ∧ t 30 2 = nI (nwr r x) ∧ AR t 31 x (lb r)) (fun o => wp o _) ?_ ?_ 0 M2 (by omega) ⟨f2.mo (by simp), e1, e2, fun j hj => by omega⟩
  · rintro x t ag hx ⟨hf, a1, a2, a3⟩ ih
    show wp (Tu_partByOrbit_L10 _ ag (nI x) t) _
    unfold Tu_partByOrbit_L10
    have tt := h.fr hf (by decide) (by decide) (by decide)
    rw [tt.2.1, if_neg (by rw [nI_leI (by omega) (by omega)]; omega)]
    have hpl : ∀ t2 a, Fr [16, 17] t t2 → a = (if fr r x < x then nI (fr r x) else -1) → wp (Option.bind (Pa_place 30 (nI x) a t2) fun M6 => ag (nI x + 1, M6)) (fun M' => Fr [16, 17, 30, 31] M M' ∧ PT M' 30 n (lb r)) := fun t2 a hf2 ha => by
      refine wp_bind (Pa_place_wp isP_30 (by omega) (a3.fr (hf2 31 (by decide))) (by rw [hf2 30 (by decide)]; exact a2) ha) (fun M3 hM3 => ?_)
      obtain ⟨c1, c2, c3, c4⟩ := hM3
      rw [nI_1]
      exact ih M3 ⟨(hf.tr (hf2.mo (by simp))).tr (c1.mo (by simp)), c2.trans ((congrFun (hf2 30 (by decide)) 1).trans a1), c4, c3⟩
    refine LOOP_up2 (fun y (a : Int32) (t : Mem) => (a, nI y, t)) x (by omega) (fun y a t2 => Fr [16, 17] t t2 ∧ ((a = -1 ∧ ∀ z, z < y → r z x = false) ∨ (∃ f, a = nI f ∧ f < y ∧ f = fr r x))) (fun o => wp o _) ?_ ?_ 0 (-1) t (by omega) ⟨Fr.rf, Or.inl ⟨rfl, fun z hz => by omega⟩⟩
    · rintro y a t2 ag' hy ⟨hf2, hJ⟩ ih'
      show wp (Tu_partByOrbit_L24 (nI x) _ ag' a (nI y) t2) _
      unfold Tu_partByOrbit_L24
      rw [if_neg (by rw [nI_leI (by omega) (by omega)]; omega)]
      refine wp_ite (fun hc => ?_) (fun hc => ?_)
      · exact hpl t2 a hf2 (frI (y := y) (Or.inr (fun e => m1_nn (e ▸ hc))) (by omega) hJ)
      · have hn : a = -1 ∧ ∀ z, z < y → r z x = false := by
          rcases hJ with z | ⟨f, e, hfy, -⟩
          · exact z
          · subst e
            exact absurd (nI_pos' (by omega)) hc
        have t3 := tt.fr hf2 (by decide) (by decide) (by decide)
        refine wp_bnd2 (Tu_brings_wp (fx := 0) hw t3 (x := y) (y := x) (by omega) hx (Nat.zero_le _)) (fun r1 M4 h4 => ?_)
        obtain ⟨f4, e4⟩ := h4
        rw [show r1 = _ from e4, brg_mv, nI_1]
        by_cases c : mvB S ma n y x = true
        · rw [if_neg (by rw [cI_0]; exact not_not_intro c)]
          refine ih' (nI y) M4 ⟨hf2.tr f4, Or.inr ⟨y, rfl, by omega, ?_⟩⟩
          have hr' : r y x = true := by rw [hr]; exact c
          exact (ff_eq hy hr' hn.2).symm
        · rw [if_pos (by rw [cI_0]; exact c)]
          refine ih' a M4 ⟨hf2.tr f4, Or.inl ⟨hn.1, fun z hz => ?_⟩⟩
          by_cases e : z = y
          · subst e; rw [hr]; exact b_f c
          · exact hn.2 z (by omega)
    · rintro a t2 ag' ⟨hf2, hJ⟩
      show wp (Tu_partByOrbit_L24 (nI x) _ ag' a (nI x) t2) _
      unfold Tu_partByOrbit_L24
      rw [if_pos (by rw [nI_leI (by omega) (by omega)]; omega)]
      exact hpl t2 a hf2 (frI (Or.inl rfl) (by omega) hJ)
  · rintro t ag ⟨hf, a1, a2, a3⟩
    show wp (Tu_partByOrbit_L10 _ ag (nI n) t) _
    unfold Tu_partByOrbit_L10
    have tt := h.fr hf (by decide) (by decide) (by decide)
    rw [tt.2.1, if_pos (by rw [nI_leI (by omega) (by omega)]; omega)]
    exact wp_some ⟨hf, a1, by rw [a2]; exact congrArg nI (lb_top r n).1.symm, a3⟩
theorem SCRo : ∀ a ∈ [16, 17, 30, 31], a ∈ SCR := by decide
theorem SP_orbits_wp {σ : Sg} {M : Mem} (hw : WF σ) (h : RC M σ) : wp (SP_orbits M) (EC (R_orbits σ) M) := by
  unfold SP_orbits R_orbits
  rw [show M 0 12 = nI σ.2.1 from h.2.1]
  refine wp_bind (SP_look hw.2.2.1 hw h) (fun M1 h1 => ?_)
  obtain ⟨f1, t1⟩ := h1
  have g1 := f1.mo SCR3
  have r1 := h.fr g1
  refine wp_bind (Tu_partByOrbit_wp (TWF.of hw) (TW.of r1 t1)) (fun M2 h2 => ?_)
  obtain ⟨f2, p2⟩ := h2
  have g2 := f2.mo SCRo
  rw [Pa_number_eq isP_30 hw.2.1 p2, bind_s]
  exact wp_some (ec_ok (r1.fr g2) (g1.tr g2).hi)
