/-! by hand: fits -/
def fitC (S : Nat → Nat) (p : Nat → Nat) (a k b o x z : Nat) : Bool := p x == a && p z == b && (if o = 0 then decide (0 < sg S k z x) else decide (0 < sg S k x z))
def fitB (S : Nat → Nat) (n : Nat) (p : Nat → Nat) (a k b o : Nat) : Bool := !(al n (fun x => al n (fun z => !fitC S p a k b o x z)))
theorem fitB_t {S : Nat → Nat} {n : Nat} {p : Nat → Nat} {a k b o x z : Nat} (hx : x < n) (hz : z < n) (h : fitC S p a k b o x z = true) : fitB S n p a k b o = true := by
  unfold fitB
  rw [al_f hx (al_f hz (by rw [h]; rfl))]; rfl
theorem fitB_f {S : Nat → Nat} {n : Nat} {p : Nat → Nat} {a k b o : Nat} (h : ∀ x z, x < n → z < n → fitC S p a k b o x z = false) : fitB S n p a k b o = false := by
  unfold fitB
  rw [al_iff.mpr (fun x hx => al_iff.mpr (fun z hz => by rw [h x z hx hz]; rfl))]; rfl
set_option maxHeartbeats 1000000 in
theorem Nc_hasSuchTie_eq {M : Mem} {S : Nat → Nat} {n a i k y o : Nat} {p : Nat → Nat} (h : Tbl M 3 S) (hn : M 1 2 = nI n) (h7 : n ≤ 7) (hp : AR M 27 n p) (hp7 : ∀ z, z < n → p z < 100) (ha : a < 100) (hi : i < 6) (e1 : M 11 i = nI k) (e2 : M 12 i = nI y) (e3 : M 13 i = nI o) (hk : k < 3) (hy : y < n) (ho : o ≤ 1) : Nc_hasSuchTie (nI a) (nI i) M = some (cI (fitB S n p a k (p y) o = true)) := by
  have l1 : aln 11 = 6 := rfl
  have l2 : aln 12 = 6 := rfl
  have l3 : aln 13 = 6 := rfl
  have hpy := hp7 y hy
  unfold Nc_hasSuchTie
  rw [SP_at_nI (by omega) (by omega), bind_s, e2, Pa_of_nI isP_26 (by omega), bind_s, hp y hy, SP_at_nI (by omega) (by omega), bind_s, e3, jp_e]
  have key : ∀ s : Int32, s = nI o → LOOP (fun aq sq => Nc_hasSuchTie_L38 (nI a) (nI i) (nI (p y)) s M (some 0) aq sq) FU 0 = some (cI (fitB S n p a k (p y) o = true)) := fun s hs => by
    subst hs
    refine LOOP_up (fun x (_ : Unit) => nI x) n (by omega) (fun x _ => ∀ u z, u < x → z < n → fitC S p a k (p y) o u z = false) (fun r => r = some (cI (fitB S n p a k (p y) o = true))) ?_ ?_ 0 () (by omega) (fun u z hu => by omega)
    · rintro x - ag hx hJ ih
      show Nc_hasSuchTie_L38 (nI a) (nI i) (nI (p y)) (nI o) M _ ag (nI x) = _
      unfold Nc_hasSuchTie_L38
      rw [hn, if_neg (by rw [nI_leI (by omega) (by omega)]; omega)]
      refine LOOP_up (fun z (_ : Unit) => nI z) n (by omega) (fun z _ => ∀ u w, u ≤ x → w < n → (u < x ∨ w < z) → fitC S p a k (p y) o u w = false) (fun r => r = some (cI (fitB S n p a k (p y) o = true))) ?_ ?_ 0 () (by omega) (fun u w hu hw hd => hJ u w (by omega) hw)
      · rintro z - ag' hz hJ' ih'
        have hpx := hp7 x hx
        have hpz := hp7 z hz
        show Nc_hasSuchTie_L50 (nI a) (nI i) (nI (p y)) (nI o) (nI x) M _ ag' (nI z) = _
        unfold Nc_hasSuchTie_L50
        have hno : fitC S p a k (p y) o x z = false → ag' (nI z + 1) = some (cI (fitB S n p a k (p y) o = true)) := fun hf => by
          rw [nI_1]
          refine ih' () (fun u w hu hw hd => ?_)
          by_cases e : u = x ∧ w = z
          · rw [e.1, e.2]; exact hf
          · exact hJ' u w hu hw (by omega)
        rw [hn, if_neg (by rw [nI_leI (by omega) (by omega)]; omega), Pa_of_nI isP_26 (by omega), bind_s, hp x hx, Pa_of_nI isP_26 (by omega), jp_e, bind_s, hp z hz, SP_at_nI (by omega) (by omega), bind_s, bind_s, e1, To_tied_eq h hk (by omega) (by omega), To_tied_eq h hk (by omega) (by omega), bind_s, bind_s]
        simp only [nI_eq (show p x < 2 ^ 31 by omega) (show a < 2 ^ 31 by omega), nI_eq (show p z < 2 ^ 31 by omega) (show p y < 2 ^ 31 by omega), show (nI o = 0) ↔ o = 0 from nI_eq (b := 0) (by omega) (by omega), cI_0]
        by_cases c1 : p x = a
        · rw [if_pos c1]
          by_cases c2 : p z = p y
          · rw [if_pos c2, if_neg one_ne0]
            by_cases c3 : o = 0
            · rw [if_pos c3]
              by_cases c4 : 0 < sg S k z x
              · rw [if_neg (not_not_intro c4), fitB_t hx hz (by unfold fitC; rw [beq_iff_eq.mpr c1, beq_iff_eq.mpr c2, if_pos c3, decide_eq_true c4]; rfl)]
                rfl
              · rw [if_pos c4]
                exact hno (by unfold fitC; rw [if_pos c3, decide_eq_false c4, Bool.and_false])
            · rw [if_neg c3]
              by_cases c4 : 0 < sg S k x z
              · rw [if_neg (not_not_intro c4), fitB_t hx hz (by unfold fitC; rw [beq_iff_eq.mpr c1, beq_iff_eq.mpr c2, if_neg c3, decide_eq_true c4]; rfl)]
                rfl
              · rw [if_pos c4]
                exact hno (by unfold fitC; rw [if_neg c3, decide_eq_false c4, Bool.and_false])
          · rw [if_neg c2, if_pos trivial]
            exact hno (by unfold fitC; rw [beq_eq_false_iff_ne.mpr c2, Bool.and_false]; rfl)
        · rw [if_neg c1, if_pos trivial]
          exact hno (by unfold fitC; rw [beq_eq_false_iff_ne.mpr c1]; rfl)
      · rintro - ag' hJ'
        show Nc_hasSuchTie_L50 (nI a) (nI i) (nI (p y)) (nI o) (nI x) M _ ag' (nI n) = _
        unfold Nc_hasSuchTie_L50
        rw [hn, if_pos (by rw [nI_leI (by omega) (by omega)]; omega), nI_1]
        exact ih () (fun u w hu hw => hJ' u w (by omega) hw (by omega))
    · rintro - ag hJ
      show Nc_hasSuchTie_L38 (nI a) (nI i) (nI (p y)) (nI o) M _ ag (nI n) = _
      unfold Nc_hasSuchTie_L38
      rw [hn, if_pos (by rw [nI_leI (by omega) (by omega)]; omega), fitB_f (fun x z hx hz => hJ x z hx hz)]
      rfl
  by_cases c : o = 1
  · rw [if_pos (by rw [c]; rfl)]
    exact key _ (by rw [c]; rfl)
  · rw [if_neg (by rw [show (1 : Int32) = nI 1 from rfl, nI_eq (by omega) (by omega)]; exact c)]
    exact key _ (by rw [show o = 0 by omega]; rfl)
set_option maxHeartbeats 1000000 in
theorem MD_isFit_eq {M : Mem} {S : Nat → Nat} {n a i k y o : Nat} {p : Nat → Nat} (h : Tbl M 49 S) (hn : M 33 8 = nI n) (h7 : n ≤ 7) (hp : AR M 50 n p) (hp7 : ∀ z, z < n → p z < 100) (h0 : dg0 S n) (ha : a < 100) (hi : i < 6) (e1 : M 58 i = nI k) (e2 : M 59 i = nI y) (e3 : M 60 i = nI o) (hk : k < 3) (hy : y < n) (ho : o ≤ 1) : MD_isFit (nI a) (nI i) M = some (cI (fitB S n p a k (p y) o = true)) := by
  have hpy := hp7 y hy
  have i6 : inb (nI i) 6 := (inb_nI (by omega)).mpr hi
  unfold MD_isFit
  refine LOOP_up (fun x (_ : Unit) => nI x) n (by omega) (fun x _ => ∀ u z, u < x → z < n → fitC S p a k (p y) o u z = false) (fun r => r = some (cI (fitB S n p a k (p y) o = true))) ?_ ?_ 0 () (by omega) (fun u z hu => by omega)
  · rintro x - ag hx hJ ih
    have hpx := hp7 x hx
    have x7 : inb (nI x) 7 := (inb_nI (by omega)).mpr (by omega)
    show MD_isFit_L2 (nI a) (nI i) M _ ag (nI x) = _
    unfold MD_isFit_L2
    rw [hn, if_neg (by rw [nI_leI (by omega) (by omega)]; omega)]
    by_cases c1 : p x = a
    · refine LOOP_up (fun z (_ : Unit) => nI z) n (by omega) (fun z _ => ∀ u w, u ≤ x → w < n → (u < x ∨ w < z) → fitC S p a k (p y) o u w = false) (fun r => r = some (cI (fitB S n p a k (p y) o = true))) ?_ ?_ 0 () (by omega) (fun u w hu hw hd => hJ u w (by omega) hw)
      · rintro z - ag' hz hJ' ih'
        have hpz := hp7 z hz
        have z7 : inb (nI z) 7 := (inb_nI (by omega)).mpr (by omega)
        have y7 : inb (rd M 59 (nI i)) 7 := by rw [rd_nI (by omega), e2]; exact (inb_nI (by omega)).mpr (by omega)
        show MD_isFit_L13 (nI a) (nI i) (nI x) M _ ag' (nI z) = _
        unfold MD_isFit_L13
        have hno : fitC S p a k (p y) o x z = false → ag' (nI z + 1) = some (cI (fitB S n p a k (p y) o = true)) := fun hf => by
          rw [nI_1]
          refine ih' () (fun u w hu hw hd => ?_)
          by_cases e : u = x ∧ w = z
          · rw [e.1, e.2]; exact hf
          · exact hJ' u w hu hw (by omega)
        rw [hn, if_neg (by rw [nI_leI (by omega) (by omega)]; omega)]
        simp only [if_pos x7, if_pos z7, if_pos i6, if_pos y7]
        rw [rd_nI (by omega), hp x hx, rd_nI (by omega), hp z hz, rd_nI (M := M) (k := 59) (by omega), e2, rd_nI (M := M) (k := 50) (by omega), hp y hy, rd_nI (M := M) (k := 60) (by omega), e3, rd_nI (M := M) (k := 58) (by omega), e1, MD_has_eq h hk (by omega) (by omega), MD_has_eq h hk (by omega) (by omega), bind_s, bind_s]
        simp only [nI_eq (show p x < 2 ^ 31 by omega) (show a < 2 ^ 31 by omega), nI_eq (show p z < 2 ^ 31 by omega) (show p y < 2 ^ 31 by omega), nI_eq (show z < 2 ^ 31 by omega) (show x < 2 ^ 31 by omega), show (nI o = 0) ↔ o = 0 from nI_eq (b := 0) (by omega) (by omega), cI_0]
        rw [if_pos c1]
        by_cases c5 : z = x
        · rw [if_pos c5]
          refine hno ?_
          have := h0 k x hk hx
          unfold fitC
          rw [c5, this]
          simp
        rw [if_neg c5]
        by_cases c2 : p z = p y
        · rw [if_pos c2]
          by_cases c3 : o = 0
          · rw [if_pos c3]
            by_cases c4 : 0 < sg S k z x
            · rw [if_neg (not_not_intro c4), fitB_t hx hz (by unfold fitC; rw [beq_iff_eq.mpr c1, beq_iff_eq.mpr c2, if_pos c3, decide_eq_true c4]; rfl)]
              rfl
            · rw [if_pos c4]
              exact hno (by unfold fitC; rw [if_pos c3, decide_eq_false c4, Bool.and_false])
          · rw [if_neg c3]
            by_cases c4 : 0 < sg S k x z
            · rw [if_neg (not_not_intro c4), fitB_t hx hz (by unfold fitC; rw [beq_iff_eq.mpr c1, beq_iff_eq.mpr c2, if_neg c3, decide_eq_true c4]; rfl)]
              rfl
            · rw [if_pos c4]
              exact hno (by unfold fitC; rw [if_neg c3, decide_eq_false c4, Bool.and_false])
        · rw [if_neg c2]
          exact hno (by unfold fitC; rw [beq_eq_false_iff_ne.mpr c2, Bool.and_false]; rfl)
      · rintro - ag' hJ'
        show MD_isFit_L13 (nI a) (nI i) (nI x) M _ ag' (nI n) = _
        unfold MD_isFit_L13
        rw [hn, if_pos (by rw [nI_leI (by omega) (by omega)]; omega), nI_1]
        exact ih () (fun u w hu hw => hJ' u w (by omega) hw (by omega))
    · obtain ⟨f, hf⟩ : ∃ f, FU = f + 1 := ⟨FU - 1, by unfold FU; omega⟩
      rw [hf, LOOP_succ]
      show MD_isFit_L13 (nI a) (nI i) (nI x) M _ _ (nI 0) = _
      unfold MD_isFit_L13
      rw [hn, if_neg (by rw [nI_leI (by omega) (by omega)]; omega), if_pos x7, rd_nI (by omega), hp x hx, if_neg (by rw [nI_eq (by omega) (by omega)]; exact c1), nI_1]
      refine ih () (fun u w hu hw => ?_)
      by_cases e : u = x
      · rw [e]; unfold fitC; rw [beq_eq_false_iff_ne.mpr c1]; rfl
      · exact hJ u w (by omega) hw
  · rintro - ag hJ
    show MD_isFit_L2 (nI a) (nI i) M _ ag (nI n) = _
    unfold MD_isFit_L2
    rw [hn, if_pos (by rw [nI_leI (by omega) (by omega)]; omega), fitB_f (fun x z hx hz => hJ x z hx hz)]
    rfl
def fitA (S : Nat → Nat) (n : Nat) (p : Nat → Nat) (nc : Nat) (nf : Nat → Nat → Nat) (a : Nat) : Bool := al nc (fun i => fitB S n p a (nf i 0) (p (nf i 1)) (nf i 2))
def mskF (f : Nat → Bool) : Nat → Nat
  | 0 => 0
  | a + 1 => if f a then mskF f a ||| 2 ^ a else mskF f a
theorem shl1 : ∀ a, a < 7 → (1 : Int32) <<< (nI a &&& 31) = nI (2 ^ a) := by decide +kernel
def R_fits (σ : Sg) (v : Int32) : Ans := match opn σ.1 v with
  | some p => (σ, nI (mskF (fitA (sS σ) σ.1 p σ.2.2.2.2.1 σ.2.2.2.2.2.2.2.2.1) (top p σ.1)))
  | none => no σ 1
theorem SP_fits_wp {σ : Sg} {M : Mem} (v : Int32) (hw : WF σ) (h : RC M σ) : wp (SP_fits v M) (EC (R_fits σ v) M) := by
  have hn : M 1 2 = nI σ.1 := h.1
  have h7 : σ.1 ≤ 7 := hw.2.1
  unfold SP_fits R_fits
  rw [hn]
  refine wp_bnd2 (Pa_readNumber_wp isP_26 hw.1 hw.2.1) (fun r M1 hr => ?_)
  obtain ⟨f1, hr⟩ := hr
  have g1 : Fr SCR M M1 := f1.mo SCR26
  have h1 := h.fr g1
  rcases hr with ⟨p, e, rfl, hp⟩ | ⟨e, rfl⟩
  · have hR := (opn_some e).1
    rw [e, if_neg one_ne0, h1.2.1]
    refine wp_bind (SP_look hw.2.2.1 hw h1) (fun M2 hM2 => ?_)
    obtain ⟨f2, t2⟩ := hM2
    have g2 := f2.mo SCR3
    have h2 := h1.fr g2
    have hp2 : PT M2 26 σ.1 p := hp.fr (f2 26 (by decide)) (f2 27 (by decide))
    have key : Nc_suitingParts M2 = some (nI (mskF (fitA (sS σ) σ.1 p σ.2.2.2.2.1 σ.2.2.2.2.2.2.2.2.1) (top p σ.1))) := by
      have ht := hR.top7
      have hp7 : ∀ z, z < σ.1 → p z < 100 := fun z hz => by have := hR.ltn z hz; omega
      obtain ⟨n, y, nt, tb, nc, ma, tf, tp, nf, rf⟩ := σ
      obtain ⟨w1, w2, w3, w4, w5, w6, w7, w8, w9, w10⟩ := hw
      obtain ⟨a1, a2, a3, a4, a5, a6, a7, a8, a9, a10⟩ := h2
      dsimp only at hp2 ht t2 h7 hp7 ⊢
      unfold Nc_suitingParts
      refine LOOP_fun (fun a => (nI (mskF (fitA (tab tf y nt) n p nc nf) a), nI a)) (top p n) (by omega) (fun _ => some (nI (mskF (fitA (tab tf y nt) n p nc nf) (top p n)))) ?_ ?_ 0 (Nat.zero_le _)
      · intro a ag ha ih
        show Nc_suitingParts_L5 M2 _ ag _ (nI a) = _
        unfold Nc_suitingParts_L5
        rw [hp2.2.1, if_neg (by rw [nI_leI (by omega) (by omega)]; omega), ← ih]
        refine LOOP_fun (fun i => (cI (al i (fun i => fitB (tab tf y nt) n p a (nf i 0) (p (nf i 1)) (nf i 2)) = true), nI i)) nc (by omega) (fun _ => _) ?_ ?_ 0 (Nat.zero_le _)
        · intro i ag' hi ih'
          obtain ⟨q1, q2, q3⟩ := a9 i hi
          obtain ⟨r1, r2, r3⟩ := w10 i hi
          show Nc_suitingParts_L20 (nI a) M2 _ ag' _ (nI i) = _
          unfold Nc_suitingParts_L20
          rw [a5, if_neg (by rw [nI_leI (by omega) (by omega)]; omega), Nc_hasSuchTie_eq t2 a1 h7 hp2.2.2 hp7 (by omega) (by omega) q1 q2 q3 r1 r2 r3, bind_s, nI_1]
          have hR' : mskF (fitA (tab tf y nt) n p nc nf) (a + 1) = if fitA (tab tf y nt) n p nc nf a = true then mskF (fitA (tab tf y nt) n p nc nf) a ||| 2 ^ a else mskF (fitA (tab tf y nt) n p nc nf) a := rfl
          by_cases c : al i (fun i => fitB (tab tf y nt) n p a (nf i 0) (p (nf i 1)) (nf i 2)) = true
          · rw [if_neg (by rw [cI_0]; exact not_not_intro c), ← ih', al_s, c, Bool.true_and, nI_1]
          · rw [if_pos (by rw [cI_0]; exact c)]
            dsimp only
            rw [if_pos (by rw [cI_0]; exact c), hR', if_neg (fun z => ?_)]
            have := al_le (n := nc) (Nat.le_of_lt hi) (b_f c)
            unfold fitA at z
            rw [this] at z; cases z
        · intro ag'
          show Nc_suitingParts_L20 (nI a) M2 _ ag' _ (nI nc) = _
          unfold Nc_suitingParts_L20
          have hR' : mskF (fitA (tab tf y nt) n p nc nf) (a + 1) = if fitA (tab tf y nt) n p nc nf a = true then mskF (fitA (tab tf y nt) n p nc nf) a ||| 2 ^ a else mskF (fitA (tab tf y nt) n p nc nf) a := rfl
          rw [a5, if_pos (by rw [nI_leI (by omega) (by omega)]; omega), nm_e', shl1 a (by omega), nI_or, nI_1, hR']
          dsimp only
          by_cases c : fitA (tab tf y nt) n p nc nf a = true
          · rw [if_neg (by rw [cI_0]; exact not_not_intro c), if_pos c]
          · rw [if_pos (by rw [cI_0]; exact c), if_neg c]
      · intro ag
        show Nc_suitingParts_L5 M2 _ ag _ (nI (top p n)) = _
        unfold Nc_suitingParts_L5
        rw [hp2.2.1, if_pos (by rw [nI_leI (by omega) (by omega)]; omega)]
    rw [key, bind_s]
    exact wp_some (ec_ok h2 (g1.tr g2).hi)
  · rw [e, if_pos rfl]
    exact SP_no1 h1 g1.hi
theorem MD_fits_wp {σ : Sg} {M : Mem} (v : Int32) (hw : WF σ) (h : RM M σ) : wp (MD_fits v M) (EM (R_fits σ v) M) := by
  have hn : M 33 8 = nI σ.1 := h.1
  have h7 : σ.1 ≤ 7 := hw.2.1
  unfold MD_fits R_fits
  refine wp_bnd2 (MD_opens_wp (Or.inl rfl) hw.1 hw.2.1 hn) (fun r M1 hr => ?_)
  obtain ⟨f1, hr⟩ := hr
  have g1 : Fr SMR M M1 := f1.mo SMR50
  have h1 := h.fr g1
  rcases hr with ⟨p, e, e2, hp⟩ | ⟨e, e2⟩
  · have hR := (opn_some e).1
    have ht := hR.top7
    simp only at e2
    rw [e, e2, if_pos (nI_nn (by omega)), h1.2.1]
    refine wp_bind (MD_look hw.2.2.1 hw h1) (fun M2 hM2 => ?_)
    obtain ⟨f2, t2⟩ := hM2
    have g2 := f2.mo SMR49
    have h2 := h1.fr g2
    have hp2 : AR M2 50 σ.1 p := hp.fr (f2 50 (by decide))
    have hd := dg0.of (σ := σ) hw (y := σ.2.1)
    refine wp_eq (r := (nI (mskF (fitA (sS σ) σ.1 p σ.2.2.2.2.1 σ.2.2.2.2.2.2.2.2.1) (top p σ.1)), M2)) ?_ (em_ok h2 (g1.tr g2).lo)
    have hp7 : ∀ z, z < σ.1 → p z < 100 := fun z hz => by have := hR.ltn z hz; omega
    clear hR e hn h h1 hp
    obtain ⟨n, y, nt, tb, nc, ma, tf, tp, nf, rf⟩ := σ
    obtain ⟨w1, w2, w3, w4, w5, w6, w7, w8, w9, w10⟩ := hw
    obtain ⟨a1, a2, a3, a4, a5, a6, a7, a8, a9, a10⟩ := h2
    dsimp only at hp2 ht t2 h7 hp7 hd ⊢
    refine LOOP_fun (fun a => (nI (mskF (fitA (tab tf y nt) n p nc nf) a), nI a)) (top p n) (by omega) (fun _ => some (nI (mskF (fitA (tab tf y nt) n p nc nf) (top p n)), M2)) ?_ ?_ 0 (Nat.zero_le _)
    · intro a ag ha ih
      show MD_fits_L33 _ M2 _ ag _ (nI a) = _
      unfold MD_fits_L33
      have hR' : mskF (fitA (tab tf y nt) n p nc nf) (a + 1) = if fitA (tab tf y nt) n p nc nf a = true then mskF (fitA (tab tf y nt) n p nc nf) a ||| 2 ^ a else mskF (fitA (tab tf y nt) n p nc nf) a := rfl
      rw [if_neg (by rw [nI_leI (by omega) (by omega)]; omega), ← ih]
      refine LOOP_fun (fun i => (cI (al i (fun i => fitB (tab tf y nt) n p a (nf i 0) (p (nf i 1)) (nf i 2)) = true), nI i)) nc (by omega) (fun _ => _) ?_ ?_ 0 (Nat.zero_le _)
      · intro i ag' hi ih'
        obtain ⟨q1, q2, q3⟩ := a9 i hi
        obtain ⟨r1, r2, r3⟩ := w10 i hi
        show MD_fits_L45 (nI a) M2 _ ag' _ (nI i) = _
        unfold MD_fits_L45
        rw [a5, if_neg (by rw [nI_leI (by omega) (by omega)]; omega), MD_isFit_eq t2 a1 h7 hp2 hp7 hd (by omega) (by omega) q1 q2 q3 r1 r2 r3, bind_s, nI_1]
        rw [← ih', al_s]
        by_cases c : al i (fun i => fitB (tab tf y nt) n p a (nf i 0) (p (nf i 1)) (nf i 2)) = true
        · rw [if_neg (by rw [cI_0]; exact not_not_intro c), c, Bool.true_and]
          by_cases c2 : fitB (tab tf y nt) n p a (nf i 0) (p (nf i 1)) (nf i 2) = true
          · rw [if_neg (by rw [cI_0]; exact not_not_intro c2), cI_t c2]
          · rw [if_pos (by rw [cI_0]; exact c2), cI_f c2]
        · rw [if_pos (by rw [cI_0]; exact c), b_f c, Bool.false_and]
          rfl
      · intro ag'
        show MD_fits_L45 (nI a) M2 _ ag' _ (nI nc) = _
        unfold MD_fits_L45
        rw [a5, if_pos (by rw [nI_leI (by omega) (by omega)]; omega), nm_e', nm_e', shl1 a (by omega), nI_or, nI_1, hR', show (0 : Int32) = nI 0 from rfl, nI_or, Nat.or_zero]
        dsimp only
        by_cases c : fitA (tab tf y nt) n p nc nf a = true
        · rw [if_neg (by rw [cI_n0]; exact not_not_intro c), if_pos c]
        · rw [if_pos (by rw [cI_n0]; exact c), if_neg c]
    · intro ag
      show MD_fits_L33 _ M2 _ ag _ (nI (top p n)) = _
      unfold MD_fits_L33
      rw [if_pos (by rw [nI_leI (by omega) (by omega)]; omega)]
  · simp only at e2
    rw [e, e2, if_neg m1_nn]
    exact MD_no1 h1 g1.lo
