/-! by hand: form: the class's search for the least row -/
def accR (ma : Nat → Nat) (n : Nat) (g : Nat → Nat) (d p : Nat) : Prop := us g d p = false ∧ ∀ o, o < n → us g d o = false → ma p ≤ ma o
def rejR (S ma : Nat → Nat) (n lead an : Nat) (g b : Nat → Nat) (d q : Nat) : Prop := us g d q = true ∨ (∃ y, y < q ∧ twB S ma n q y = true ∧ us g d y = false) ∨ (∃ o, o < n ∧ us g d o = false ∧ ma o < ma q) ∨ (an = 1 ∧ BH S lead d (pg g d q) b)
theorem not_rej {S ma f g b : Nat → Nat} {n lead an d : Nat} (hw : TWF n ma S) (h9 : S9 S) (h : BST S ma n f) (hd : d < n) (ha : ∀ e, e < d → f e = g e) (hb : an = 1 → Pm n b ∧ LMk ma n n b) (hl3 : lead < 3) (hl : ∀ k x z, k < lead → x < n → z < n → sg S k x z = 0) : ¬ rejR S ma n lead an g b d (f d) := by
  have hu : ∀ p, us g d p = us f d p := fun p => (us_cg ha).symm
  rintro (r | ⟨y, h1, h2, h3⟩ | ⟨o, h1, h2, h3⟩ | ⟨h1, z, h2, h3, h4, h5⟩)
  · rw [hu, us_f h.1.inj (Nat.le_refl _) hd] at r; cases r
  · rw [hu, BST_twin hw h hd h1 h2] at h3; cases h3
  · rw [hu] at h2
    have := BST_mark hw h9 h d hd o h1 h2
    omega
  · obtain ⟨b1, b2⟩ := hb h1
    have hq : ∀ e, e ≤ d → pg g d (f d) e = f e := fun e he => by
      by_cases c : e = d
      · rw [c, pg_s]
      · rw [pg_n c]; exact (ha e (by omega)).symm
    refine no_behind hw h9 h b1 (marks_eq hw h9 h b1 b2) hl3 hl h2 (by omega) (fun e k1 k2 => ?_) ?_
    · have := h4 e k1 k2
      rw [hq 0 (by omega), hq e (by omega)] at this
      exact this
    · rw [hq 0 (by omega), hq z h3] at h5
      exact h5
set_option maxHeartbeats 1000000 in
theorem Tu_nextInRow_wp {M : Mem} {n d c lead an : Nat} {S ma g b : Nat → Nat} (hw : TWF n ma S) (h : TW M n ma S) (hd : d < n) (hs : SE M n d c g) (ht : AR M 19 n (twM S ma n)) (han : an = 0 ∨ an = 1) (hb : an = 1 → AR M 18 n b ∧ ∀ x, x < n → b x < n) (hl3 : lead < 3) :
    wp (Tu_nextInRow (nI lead) (nI an) M) (fun r => Fr [16] M r.2 ∧ LF r.2 n d g ∧ ((∃ p, c ≤ p ∧ p < n ∧ r.1 = nI p ∧ accR ma n g d p ∧ ∀ q, c ≤ q → q < p → rejR S ma n lead an g b d q) ∨ (r.1 = -1 ∧ ∀ q, c ≤ q → q < n → rejR S ma n lead an g b d q))) := by
  have h7 : n ≤ 7 := hw.2.1
  have hcn := hs.2.1
  have ha9 := al19
  unfold Tu_nextInRow
  refine wp_bnd2 (Tu_lift_wp h7 hd hs) (fun r M1 h1 => ?_)
  obtain ⟨f1, e1, l1⟩ := h1
  dsimp only at f1 l1
  rw [show r = nI c from e1]
  have t1 := h.fr f1 (by decide) (by decide) (by decide)
  have ht1 := ht.fr (f1 19 (by decide))
  have hb1 : an = 1 → AR M1 18 n b ∧ ∀ x, x < n → b x < n := fun z => ⟨(hb z).1.fr (f1 18 (by decide)), (hb z).2⟩
  obtain ⟨-, -, a4, -, u, a8, a9, a10⟩ := id l1
  refine LOOP_up (fun p (_ : Unit) => nI p) n (by omega) (fun p _ => c ≤ p ∧ ∀ q, c ≤ q → q < p → rejR S ma n lead an g b d q) (fun o => wp o _) ?_ ?_ c () hcn ⟨Nat.le_refl _, fun q h1 h2 => by omega⟩
  · rintro p - ag hp ⟨hcp, hJ⟩ ih
    show wp (Tu_nextInRow_L6 (nI lead) (nI an) M1 _ ag (nI p)) _
    unfold Tu_nextInRow_L6
    have hno : rejR S ma n lead an g b d p → wp (ag (nI p + 1)) _ := fun hb => by
      rw [nI_1]
      refine ih () ⟨by omega, fun q h1 h2 => ?_⟩
      by_cases e : q = p
      · subst e; exact hb
      · exact hJ q h1 (by omega)
    rw [t1.2.1, if_neg (by rw [nI_leI (by omega) (by omega)]; omega), a9, SP_holds_eq u a8 p (by omega), bind_s, a10 p (by omega), jp_e]
    by_cases c2 : us g d p = true
    · rw [if_neg (by rw [cI_0]; exact not_not_intro c2)]
      show wp (if (0 : Int32) = 0 then _ else _) _
      rw [if_pos rfl]
      exact hno (Or.inl c2)
    · obtain ⟨m1, m2⟩ := msk_bit (f := twB S ma n p) (a := p) (by omega)
      have hsub := tw_sub (twM S ma n p) m1 u a8
      rw [if_pos (by rw [cI_0]; exact c2), SP_at_nI (by omega) (by omega), bind_s, ht1 p hp]
      by_cases c3 : nI (twM S ma n p) &&& (nI u ^^^ (-1)) = 0
      · rw [if_pos c3]
        show wp (if (1 : Int32) = 0 then _ else _) _
        rw [if_neg one_ne0, Tu_hasLeastMark_eq hw t1 l1 hp, bind_s]
        by_cases c4 : al n (fun o => us g d o || decide (ma p ≤ ma o)) = true
        · rw [if_neg (by rw [cI_0]; exact not_not_intro c4)]
          have hacc : accR ma n g d p := ⟨b_f c2, fun o ho hu => by
            have := al_iff.mp c4 o ho
            rw [hu, Bool.false_or] at this
            exact of_decide_eq_true this⟩
          have hok : wp (some (nI p, M1)) (fun r => Fr [16] M r.2 ∧ LF r.2 n d g ∧ ((∃ p, c ≤ p ∧ p < n ∧ r.1 = nI p ∧ accR ma n g d p ∧ ∀ q, c ≤ q → q < p → rejR S ma n lead an g b d q) ∨ (r.1 = -1 ∧ ∀ q, c ≤ q → q < n → rejR S ma n lead an g b d q))) := wp_some ⟨f1, l1, Or.inl ⟨p, hcp, hp, rfl, hacc, hJ⟩⟩
          rcases han with rfl | rfl
          · rw [if_pos (show nI 0 = 0 from rfl)]; exact hok
          · rw [if_neg (by decide)]
            obtain ⟨bb, e5, h5⟩ := Tu_behindBest_eq hw t1 l1 hp (hb1 rfl).1 (hb1 rfl).2 hl3
            rw [e5, bind_s]
            by_cases c5 : bb = true
            · rw [if_neg (by rw [cI_0]; exact not_not_intro c5)]
              exact hno (Or.inr (Or.inr (Or.inr ⟨rfl, h5 c5⟩)))
            · rw [if_pos (by rw [cI_0]; exact c5)]; exact hok
        · rw [if_pos (by rw [cI_0]; exact c4)]
          refine hno (Or.inr (Or.inr (Or.inl ?_)))
          have h6 : exB n (fun o => !(us g d o || decide (ma p ≤ ma o))) = true := by
            unfold exB
            rw [al_cg (Q := fun o => us g d o || decide (ma p ≤ ma o)) (fun o _ => by rw [Bool.not_not]), b_f c4]; rfl
          obtain ⟨o, ho, h7⟩ := exB_iff.mp h6
          rw [Bool.not_eq_true', Bool.or_eq_false_iff] at h7
          exact ⟨o, ho, h7.1, by have := of_decide_eq_false h7.2; omega⟩
      · rw [if_neg c3]
        show wp (if (0 : Int32) = 0 then _ else _) _
        rw [if_pos rfl]
        refine hno (Or.inr (Or.inl ?_))
        rw [decide_eq_false c3] at hsub
        have h6 : exB 7 (fun q => !(!(twM S ma n p).testBit q || u.testBit q)) = true := by
          unfold exB
          rw [al_cg (Q := fun q => !(twM S ma n p).testBit q || u.testBit q) (fun o _ => by rw [Bool.not_not]), ← hsub]; rfl
        obtain ⟨q, hq, h7⟩ := exB_iff.mp h6
        rw [Bool.not_eq_true', Bool.or_eq_false_iff, Bool.not_eq_false', show (twM S ma n p).testBit q = _ from m2 q hq, Bool.and_eq_true, a10 q hq] at h7
        exact ⟨q, of_decide_eq_true h7.1.1, h7.1.2, h7.2⟩
  · rintro - ag ⟨hcp, hJ⟩
    show wp (Tu_nextInRow_L6 (nI lead) (nI an) M1 _ ag (nI n)) _
    unfold Tu_nextInRow_L6
    rw [t1.2.1, if_pos (by rw [nI_leI (by omega) (by omega)]; omega)]
    exact wp_some ⟨f1, l1, Or.inr ⟨rfl, hJ⟩⟩
theorem SE_pop {M : Mem} {n d : Nat} {g : Nat → Nat} (h7 : n ≤ 7) (h : SE M n n 0 g) (hn : n = d + 1) : SE (st2 M 16 3 (nI n - 1)) n d (g d + 1) g := by
  obtain ⟨a1, a2, a3, a4, a5, a6, a7, u, a8, a9, a10⟩ := h
  subst hn
  rw [nI_pred]
  refine ⟨by omega, ?_, a3.le (by omega), by rw [st2_s, upd_s], (a5.le (by omega)).fr (st2_n (by decide)), fun _ => ?_, fun _ => ?_, u, a8, ?_, fun p hp => ?_⟩
  · have := a3.1 d (by omega); omega
  · rw [st2_n (by decide), nI_pred]; exact a5 d (by omega)
  · rw [show g d + 1 - 1 = g d by omega]; exact a3.fr
  · rw [st2_s, upd_n (by decide)]; exact a9
  · rw [a10 p hp, show g d + 1 - 1 = g d by omega, show decide (0 < g d + 1) = true from decide_eq_true (by omega), Bool.true_and, show decide (0 < 0) = false from rfl, Bool.false_and, Bool.or_false]
    by_cases c : us g d p = true
    · rw [c, us_s.mpr (Or.inl c), Bool.true_or]
    · by_cases c2 : p = g d
      · rw [c2, us_s.mpr (Or.inr rfl), beq_self_eq_true, Bool.or_true]
      · rw [b_f c, beq_eq_false_iff_ne.mpr c2]
        refine b_f (fun z => ?_)
        rcases us_s.mp z with z | z
        · exact c z
        · exact c2 z.symm
def GBt (ma : Nat → Nat) (n : Nat) (t : Mem) (b : Nat → Nat) : Prop := Pm n b ∧ LMk ma n n b ∧ AR t 18 n b
def Q1f (S ma f : Nat → Nat) (n an : Nat) (t : Mem) (D : Nat) : Prop := ∃ d c g, SE t n d c g ∧ D = ptl n d c g ∧ (d = n → c = 0) ∧ LMk ma n d g ∧ ((an = 0 ∧ ahd f d c g) ∨ (an = 1 ∧ ∃ b, GBt ma n t b ∧ (rwN S ma n b = rwN S ma n f ∨ ahd f d c g)))
set_option maxHeartbeats 2000000 in
theorem Tu_leastRow_wp {M : Mem} {n : Nat} {S ma : Nat → Nat} (hw : TWF n ma S) (h9 : S9 S) (h : TW M n ma S) : wp (Tu_leastRow M) (fun r => Fr [16, 17, 18, 19] M r.2 ∧ r.1 = nI (frm S ma n % 1000000007)) := by
  have h7 : n ≤ 7 := hw.2.1
  have h1n : 1 ≤ n := hw.1
  obtain ⟨f, hp, hfrm, hmin⟩ := frm_ex (S := S) (ma := ma) h1n h7
  have hB : BST S ma n f := ⟨hp, hmin⟩
  unfold Tu_leastRow
  refine wp_bind (Tu_findTwins_wp hw h) (fun M1 h1 => ?_)
  obtain ⟨f1, tw1⟩ := h1
  have t1 := h.fr f1 (by decide) (by decide) (by decide)
  obtain ⟨lead, hl3, el, hl⟩ := Tu_firstKind_eq hw t1
  rw [el, bind_s]
  refine wp_bind (Tu_begin_wp (n := n) (g := fun _ => 0)) (fun M2 h2 => ?_)
  obtain ⟨f2, s2⟩ := h2
  have hi0 := ptl_0 (n := n) (g := fun _ => 0) h1n h7
  refine LOOP_inv (fun D (s : Int32 × Int32 × Mem) => ∃ an st, s.1 = nI an ∧ s.2.1 = nI st ∧ st + D ≤ 100000 ∧ Fr [16, 17, 18] M1 s.2.2 ∧ (an = 0 ∨ an = 1) ∧ (Q1f S ma f n an s.2.2 D ∨ (s.2.2 16 3 = -1 ∧ ∃ b, GBt ma n s.2.2 b ∧ rwN S ma n b = rwN S ma n f))) (fun o => wp o _) ?_ FU (ptl n 0 0 (fun _ => 0)) (0, 0, M2) (by unfold FU; omega) ⟨0, 0, rfl, rfl, by omega, f2.mo (by simp), Or.inl rfl, Or.inl ⟨0, 0, _, s2, rfl, fun _ => rfl, fun e he => by omega, Or.inl ⟨rfl, ahd_0⟩⟩⟩
  rintro D ⟨v3, v4, t⟩ ag ⟨an, st, e3, e4, hD, hft, han, hcase⟩ ih
  dsimp only at e3 e4 hft hcase
  subst e3 e4
  show wp (Tu_leastRow_L19 (nI lead) _ ag (nI an) (nI st) t) _
  unfold Tu_leastRow_L19
  have tt := t1.fr hft (by decide) (by decide) (by decide)
  have ttw := tw1.fr (hft 19 (by decide))
  rw [if_neg (by rw [show (1000000 : Int32) = nI 1000000 from rfl, nI_leI (by omega) (by omega)]; omega)]
  rcases hcase with ⟨d, c0, g, hs, hDe, hdc, hlm, hst⟩ | ⟨e16, b, hgb, hbf⟩
  · have hd := hs.1
    have hI := hs.2.2.1
    rw [hs.2.2.2.1, if_neg (nI_pos (by omega)), tt.2.1]
    by_cases cd : d = n
    · -- a whole order
      have hc0 := hdc cd
      subst cd hc0
      rw [if_pos (by rw [nI_leI (by omega) (by omega)]; omega), jp_e, jp_e]
      obtain ⟨n', hn'⟩ : ∃ n', d = n' + 1 := ⟨d - 1, by omega⟩
      have hlt : ptl d n' (g n' + 1) g < ptl d d 0 g := by
        have := ptl_pop (n := d) (d := n') (c := 0) (g := g) (by omega)
        rw [← hn'] at this; exact this
      have hgp : Pm d g := hI
      have hagr : (∀ e, e < d → f e = g e) → rwN S ma d g = rwN S ma d f := fun z => rwN_cg h1n (fun x hx => (z x hx).symm)
      have hpop : ahd f d 0 g → (rwN S ma d g = rwN S ma d f) ∨ ahd f n' (g n' + 1) g := fun z => by
        by_cases ca : ∀ e, e < d → f e = g e
        · exact Or.inl (hagr ca)
        · refine Or.inr (ahd_pop (c := 0) ?_ ?_)
          · rw [← hn']; exact z
          · rw [← hn']; exact fun q => ca q.1
      have hk1 : ∀ t' b, Fr [18] t t' → GBt ma d t' b → (rwN S ma d b = rwN S ma d f ∨ ahd f n' (g n' + 1) g) → wp (nm (st2 t' 16 3 ((t' 16 3) - 1)) fun (M5 : Mem) => ag (1, nI st + 1, M5)) (fun r => Fr [16, 17, 18, 19] M r.2 ∧ r.1 = nI (frm S ma d % 1000000007)) := fun t' b hf' hgb hor => by
        have hs' := hs.fr (hf' 16 (by decide)) (hf' 17 (by decide))
        rw [nm_e', hs'.2.2.2.1, nI_1]
        refine ih _ (1, nI (st + 1), st2 t' 16 3 (nI d - 1)) (by rw [hDe]; exact hlt) ⟨1, st + 1, rfl, rfl, by omega, (hft.tr (hf'.mo (by simp))).tr (Fr.st (by simp)), Or.inr rfl, Or.inl ⟨n', g n' + 1, g, SE_pop h7 hs' hn', rfl, fun z => by omega, fun e he => hlm e (by omega), Or.inr ⟨rfl, b, ⟨hgb.1, hgb.2.1, ?_⟩, hor⟩⟩⟩
        exact hgb.2.2.fr (M' := st2 t' 16 3 (nI d - 1)) (st2_n (by decide))
      have hk2 : (rwN S ma d g = rwN S ma d f ∨ ahd f n' (g n' + 1) g) → wp (Option.bind (Tu_keepBest t) fun M6 => nm (st2 M6 16 3 ((M6 16 3) - 1)) fun (M5 : Mem) => ag (1, nI st + 1, M5)) (fun r => Fr [16, 17, 18, 19] M r.2 ∧ r.1 = nI (frm S ma d % 1000000007)) := fun hor => by
        refine wp_bind (Tu_keepBest_wp h7 tt.2.1 hs.2.2.2.2.1) (fun M6 h6 => ?_)
        obtain ⟨f6, a6⟩ := h6
        exact hk1 M6 g f6 ⟨hgp, hlm, a6⟩ hor
      rcases hst with ⟨rfl, hah⟩ | ⟨rfl, b, hgb, hor⟩
      · rw [if_pos (show nI 0 = 0 from rfl)]
        exact hk2 (hpop hah)
      · rw [if_neg (by decide)]
        have hmg := marks_eq hw h9 hB hgp hlm
        have hmb := marks_eq hw h9 hB hgb.1 hgb.2.1
        obtain ⟨bb, e5, h5⟩ := Tu_lessThanBest_eq hw h9 tt hs.2.2.2.2.1 hgb.2.2 hgp.1 hgb.1.1 hl3 (fun j hj => pre_eq hw hgp.1 hgb.1.1 (fun i hi => (hmb i hi).trans (hmg i hi).symm) hl3 hl hj)
        rw [e5, bind_s]
        have hfg := (hmin g hgp).1
        have hfb := (hmin b hgb.1).1
        by_cases c5 : bb = true
        · rw [if_neg (by rw [cI_0]; exact not_not_intro c5)]
          have := h5.mp c5
          rcases hor with q | q
          · omega
          · exact hk2 (hpop q)
        · rw [if_pos (by rw [cI_0]; exact c5)]
          have h6 : ¬ rwN S ma d g < rwN S ma d b := fun z => c5 (h5.mpr z)
          refine hk1 t b Fr.rf hgb ?_
          rcases hor with q | q
          · exact Or.inl q
          · rcases hpop q with q2 | q2
            · exact Or.inl (by omega)
            · exact Or.inr q2
    · -- on the way
      rw [if_neg (by rw [nI_leI (by omega) (by omega)]; omega)]
      obtain ⟨b, hbb⟩ : ∃ b, an = 1 → GBt ma n t b ∧ (rwN S ma n b = rwN S ma n f ∨ ahd f d c0 g) := by
        rcases hst with ⟨rfl, -⟩ | ⟨-, b, q⟩
        · exact ⟨f, fun z => by omega⟩
        · exact ⟨b, fun _ => q⟩
      have hah : (an = 0 ∧ ahd f d c0 g) ∨ (an = 1 ∧ (rwN S ma n b = rwN S ma n f ∨ ahd f d c0 g)) := by
        rcases hst with q | ⟨q, -⟩
        · exact Or.inl q
        · exact Or.inr ⟨q, (hbb q).2⟩
      refine wp_bnd2 (Tu_nextInRow_wp (an := an) (b := b) hw tt (by omega) hs ttw han (fun z => ⟨(hbb z).1.2.2, (hbb z).1.1.1⟩) hl3) (fun r3 M3 h3 => ?_)
      obtain ⟨f3, l3, nx⟩ := h3
      dsimp only at f3 l3 nx
      have hnr : (∀ e, e < d → f e = g e) → ¬ rejR S ma n lead an g b d (f d) := fun ha => not_rej hw h9 hB (by omega) ha (fun z => ⟨(hbb z).1.1, (hbb z).1.2.1⟩) hl3 hl
      have hmk : ∀ M4 d' c' g' (X : Prop), Fr [16, 17] M3 M4 → (ahd f d c0 g → X) → (X → ahd f d' c' g') → ((an = 0 ∧ ahd f d' c' g') ∨ (an = 1 ∧ ∃ b, GBt ma n M4 b ∧ (rwN S ma n b = rwN S ma n f ∨ ahd f d' c' g'))) := fun M4 d' c' g' X hf4 hx hx' => by
        rcases hah with ⟨q1, q2⟩ | ⟨q1, q2⟩
        · exact Or.inl ⟨q1, hx' (hx q2)⟩
        · refine Or.inr ⟨q1, b, ⟨(hbb q1).1.1, (hbb q1).1.2.1, ?_⟩, ?_⟩
          · exact (hbb q1).1.2.2.fr ((hf4 18 (by decide)).trans (f3 18 (by decide)))
          · rcases q2 with q2 | q2
            · exact Or.inl q2
            · exact Or.inr (hx' (hx q2))
      rcases nx with ⟨p, hcp, hpn, rfl, ⟨acc1, acc2⟩, hrej⟩ | ⟨rfl, hrej⟩
      · refine wp_bind (Tu_fwd h7 l3 hpn acc1) (fun M4 h4 => ?_)
        obtain ⟨f4, s4⟩ := h4
        rw [nI_1]
        have hlt := ptl_push hI (by omega) hcp hpn acc1
        refine ih _ (nI an, nI (st + 1), M4) (by rw [hDe]; exact hlt) ⟨an, st + 1, rfl, rfl, by omega, (hft.tr (f3.mo (by simp))).tr (f4.mo (by simp)), han, Or.inl ⟨d + 1, 0, _, s4, rfl, fun _ => rfl, fun e he o ho hu => ?_, hmk M4 _ _ _ (ahd f d c0 g) f4 (fun z => z) (fun z => ahd_push z (fun ha hc => ?_))⟩⟩
        · by_cases q : e = d
          · rw [q, pg_s]
            rw [q, us_cg (g' := g) (fun e' he' => pg_l he')] at hu
            exact acc2 o ho hu
          · rw [pg_n q]
            rw [us_cg (g' := g) (fun e' he' => pg_l (by omega))] at hu
            exact hlm e (by omega) o ho hu
        · rcases Nat.lt_or_ge (f d) p with q | q
          · exact absurd (hrej _ hc q) (hnr ha)
          · exact q
      · refine wp_bind (Tu_back h7 l3) (fun M4 h4 => ?_)
        obtain ⟨f4, h4⟩ := h4
        rw [nI_1]
        have hnot : ¬ ((∀ e, e < d → f e = g e) ∧ c0 ≤ f d) := fun ⟨ha, hc⟩ => hnr ha (hrej _ hc (hp.1 d (by omega)))
        have hfr : Fr [16, 17, 18] M1 M4 := (hft.tr (f3.mo (by simp))).tr (f4.mo (by simp))
        rcases h4 with ⟨rfl, e16⟩ | ⟨d', rfl, s4⟩
        · have hpos := ptl_pos (n := n) (d := 0) (c := c0) (g := g)
          refine ih 0 (nI an, nI (st + 1), M4) (by omega) ⟨an, st + 1, rfl, rfl, by omega, hfr, han, Or.inr ⟨e16, ?_⟩⟩
          rcases hmk M4 0 c0 g False (f4.mo (by simp)) (fun z => ahd_end z hnot) (fun z => z.elim) with ⟨-, q⟩ | ⟨-, b', q1, q2⟩
          · exact (ahd_end q hnot).elim
          · refine ⟨b', q1, ?_⟩
            rcases q2 with q2 | q2
            · exact q2
            · exact (ahd_end q2 hnot).elim
        · have hlt := ptl_pop (n := n) (d := d') (c := c0) (g := g) (by omega)
          exact ih _ (nI an, nI (st + 1), M4) (by rw [hDe]; exact hlt) ⟨an, st + 1, rfl, rfl, by omega, hfr, han, Or.inl ⟨d', _, g, s4, rfl, fun z => by omega, fun e he => hlm e (by omega), hmk M4 _ _ _ (ahd f d' (g d' + 1) g) (f4.mo (by simp)) (fun z => ahd_pop z hnot) (fun z => z)⟩⟩
  · rw [e16, if_pos m1_neg]
    show wp (Option.bind (Tu_bestAsNumber t) fun r_4 => some (r_4, t)) _
    rw [Tu_bestAsNumber_eq hw h9 tt hgb.2.2 hgb.1.1, bind_s]
    exact wp_some ⟨(f1.mo (by simp)).tr (hft.mo (by simp)), by rw [hfrm, ← hbf]⟩
theorem SCRf : ∀ a ∈ [16, 17, 18, 19], a ∈ SCR := by decide
theorem SP_form_wp {σ : Sg} {M : Mem} (hw : WF σ) (h : RC M σ) : wp (SP_form M) (EC (R_form σ) M) := by
  unfold SP_form R_form
  rw [show M 0 12 = nI σ.2.1 from h.2.1]
  refine wp_bind (SP_look hw.2.2.1 hw h) (fun M1 h1 => ?_)
  obtain ⟨f1, t1⟩ := h1
  have g1 := f1.mo SCR3
  have r1 := h.fr g1
  refine wp_bnd2 (Tu_leastRow_wp (TWF.of hw) (S9.of hw) (TW.of r1 t1)) (fun r M2 h2 => ?_)
  obtain ⟨f2, e2⟩ := h2
  have g2 := f2.mo SCRf
  rw [show r = _ from e2]
  exact wp_some (ec_ok (r1.fr g2) (g1.tr g2).hi)
