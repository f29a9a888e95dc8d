/-! by hand: form: the class's smaller methods -/
theorem msk_bit {f : Nat → Bool} : ∀ {a : Nat}, a ≤ 7 → mskF f a < 128 ∧ ∀ q, q < 7 → (mskF f a).testBit q = (decide (q < a) && f q)
  | 0, _ => ⟨by show 0 < 128; omega, fun q _ => by rw [show mskF f 0 = 0 from rfl, Nat.zero_testBit]; simp⟩
  | a + 1, h => by
    obtain ⟨h1, h2⟩ := msk_bit (f := f) (a := a) (by omega)
    have e : mskF f (a + 1) = if f a then mskF f a ||| 2 ^ a else mskF f a := rfl
    rw [e]
    by_cases c : f a = true
    · rw [if_pos c]
      obtain ⟨b1, b2⟩ := set_bit _ h1 a (by omega)
      refine ⟨b1, fun q hq => ?_⟩
      rw [b2 q hq, h2 q hq]
      by_cases c2 : q = a
      · rw [c2, c]; simp
      · rw [beq_eq_false_iff_ne.mpr c2, Bool.or_false]
        by_cases c3 : q < a
        · rw [decide_eq_true c3, decide_eq_true (by omega)]
        · rw [decide_eq_false c3, decide_eq_false (by omega)]
    · rw [if_neg c]
      refine ⟨h1, fun q hq => ?_⟩
      rw [h2 q hq]
      by_cases c2 : q = a
      · rw [c2, b_f c]; simp
      · by_cases c3 : q < a
        · rw [decide_eq_true c3, decide_eq_true (by omega)]
        · rw [decide_eq_false c3, decide_eq_false (by omega)]
theorem tw_sub : ∀ w, w < 128 → ∀ u, u < 128 → decide (nI w &&& (nI u ^^^ (-1)) = 0) = al 7 (fun q => !(w.testBit q) || u.testBit q) := by decide +kernel
def twM (S ma : Nat → Nat) (n x : Nat) : Nat := mskF (twB S ma n x) x
theorem al18 : aln 18 = 7 := rfl
theorem al19 : aln 19 = 7 := rfl
theorem al2 : aln 2 = 7 := rfl
theorem Tu_findTwins_wp {M : Mem} {n : Nat} {S ma : Nat → Nat} (hw : TWF n ma S) (h : TW M n ma S) : wp (Tu_findTwins M) (fun M' => Fr [19] M M' ∧ AR M' 19 n (twM S ma n)) := by
  have h7 : n ≤ 7 := hw.2.1
  have ha := al19
  unfold Tu_findTwins
  refine LOOP_up (fun x (t : Mem) => (nI x, t)) n (by omega) (fun x t => Fr [19] M t ∧ AR t 19 x (twM S ma n)) (fun o => wp o _) ?_ ?_ 0 M (by omega) ⟨Fr.rf, fun j hj => by omega⟩
  · rintro x t ag hx ⟨hf, g⟩ ih
    show wp (Tu_findTwins_L2 _ ag (nI x) t) _
    unfold Tu_findTwins_L2
    have tt := h.fr hf (by decide) (by decide) (by decide)
    rw [tt.2.1, if_neg (by rw [nI_leI (by omega) (by omega)]; omega)]
    refine LOOP_up (fun y (v : Int32) => (v, nI y)) x (by omega) (fun y v => v = nI (mskF (twB S ma n x) y)) (fun o => wp o _) ?_ ?_ 0 0 (by omega) rfl
    · rintro y v ag' hy rfl ih'
      show wp (Tu_findTwins_L15 (nI x) t _ ag' _ (nI y)) _
      unfold Tu_findTwins_L15
      have e1 : mskF (twB S ma n x) (y + 1) = if twB S ma n x y then mskF (twB S ma n x) y ||| 2 ^ y else mskF (twB S ma n x) y := rfl
      rw [if_neg (by rw [nI_leI (by omega) (by omega)]; omega), To_sameMark_eq tt.2.2 hw.2.2.1 (by omega) (by omega), bind_s]
      by_cases c : ma x = ma y
      · rw [if_neg (by rw [cI_0]; exact not_not_intro c), show (1 : Int32) = cI (true = true) from rfl, Sa_swappable_eq tt.1 tt.2.1 h7 (by omega) (by omega), bind_s]
        by_cases c2 : swB S n true x y = true
        · rw [if_neg (by rw [cI_0]; exact not_not_intro c2), nm_e', show cI (true = true) = (1 : Int32) from rfl, shl1 y (by omega), nI_or, nI_1]
          refine ih' _ ?_
          rw [e1, if_pos (by unfold twB; rw [beq_iff_eq.mpr c, c2]; rfl)]
        · rw [if_pos (by rw [cI_0]; exact c2), show cI (true = true) = (1 : Int32) from rfl, nI_1]
          refine ih' _ ?_
          rw [e1, if_neg (by unfold twB; rw [b_f c2, Bool.and_false]; decide)]
      · rw [if_pos (by rw [cI_0]; exact c), nI_1]
        refine ih' _ ?_
        rw [e1, if_neg (by unfold twB; rw [beq_eq_false_iff_ne.mpr c, Bool.false_and]; decide)]
    · rintro v ag' rfl
      show wp (Tu_findTwins_L15 (nI x) t _ ag' _ (nI x)) _
      unfold Tu_findTwins_L15
      rw [if_pos (by rw [nI_leI (by omega) (by omega)]; omega)]
      show wp (Option.bind (SP_put 19 (nI x) (nI (mskF (twB S ma n x) x)) t) fun M2 => ag (nI x + 1, M2)) _
      rw [SP_put_nI (by omega) (by omega), bind_s, nI_1]
      refine ih _ ⟨hf.tr (Fr.st (by simp)), fun j hj => ?_⟩
      rw [st2_s]
      by_cases e : j = x
      · subst e; rw [upd_s]; rfl
      · rw [upd_n e]; exact g j (by omega)
  · rintro t ag ⟨hf, g⟩
    show wp (Tu_findTwins_L2 _ ag (nI n) t) _
    unfold Tu_findTwins_L2
    have tt := h.fr hf (by decide) (by decide) (by decide)
    rw [tt.2.1, if_pos (by rw [nI_leI (by omega) (by omega)]; omega)]
    exact wp_some ⟨hf, g⟩
theorem sm_zr {f : Nat → Nat} : ∀ {n : Nat}, sm n f = 0 → ∀ x, x < n → f x = 0
  | 0, _, x, hx => by omega
  | n + 1, h, x, hx => by
    rw [sm_s] at h
    by_cases c : x = n
    · rw [c]; omega
    · exact sm_zr (n := n) (by omega) x (by omega)
theorem Tu_firstKind_eq {M : Mem} {n : Nat} {S ma : Nat → Nat} (hw : TWF n ma S) (h : TW M n ma S) : ∃ lead, lead < 3 ∧ Tu_firstKind M = some (nI lead) ∧ ∀ k x z, k < lead → x < n → z < n → sg S k x z = 0 := by
  have h7 : n ≤ 7 := hw.2.1
  unfold Tu_firstKind
  refine LOOP_up (fun k (_ : Unit) => nI k) 3 (by omega) (fun k _ => ∀ j x z, j < k → x < n → z < n → sg S j x z = 0) (fun o => ∃ lead, lead < 3 ∧ o = some (nI lead) ∧ ∀ k x z, k < lead → x < n → z < n → sg S k x z = 0) ?_ ?_ 0 () (by omega) (fun j x z hj => by omega)
  · rintro k - ag hk hJ ih
    show ∃ lead, lead < 3 ∧ Tu_firstKind_L2 M _ ag (nI k) = some (nI lead) ∧ _
    unfold Tu_firstKind_L2
    rw [if_neg (by rw [show (3 : Int32) = nI 3 from rfl, nI_leI (by omega) (by omega)]; omega), To_tiesOfKind_eq h.1 h.2.1 h7 hk, bind_s]
    have hb : sm n (fun x => sm n (fun z => if 0 < sg S k x z then 1 else 0)) ≤ n * (n * 1) := sm_le (fun x _ => sm_le (fun z _ => by split <;> omega))
    have hb2 : n * (n * 1) ≤ 49 := by rcases n17 hw.1 h7 with rfl | rfl | rfl | rfl | rfl | rfl | rfl <;> decide
    by_cases c : sm n (fun x => sm n (fun z => if 0 < sg S k x z then 1 else 0)) = 0
    · rw [if_pos ((nI_pos_iff (by omega)).mpr c), nI_1]
      refine ih () (fun j x z hj hx hz => ?_)
      by_cases e : j = k
      · subst e
        have := sm_zr (sm_zr c x hx) z hz
        by_cases c2 : 0 < sg S j x z
        · rw [if_pos c2] at this; omega
        · omega
      · exact hJ j x z (by omega) hx hz
    · rw [if_neg (fun z => c ((nI_pos_iff (by omega)).mp z))]
      exact ⟨k, hk, rfl, hJ⟩
  · rintro - ag hJ
    show ∃ lead, lead < 3 ∧ Tu_firstKind_L2 M _ ag (nI 3) = some (nI lead) ∧ _
    unfold Tu_firstKind_L2
    rw [if_pos (by decide)]
    exact ⟨0, by omega, rfl, fun k x z hk => by omega⟩
theorem Tu_hasLeastMark_eq {M : Mem} {n d p : Nat} {S ma g : Nat → Nat} (hw : TWF n ma S) (h : TW M n ma S) (hl : LF M n d g) (hp : p < n) : Tu_hasLeastMark (nI p) M = some (cI (al n (fun o => us g d o || decide (ma p ≤ ma o)) = true)) := by
  have h7 : n ≤ 7 := hw.2.1
  have ha := al2
  obtain ⟨-, -, -, -, u, a8, a9, a10⟩ := hl
  unfold Tu_hasLeastMark
  refine LOOP_up (fun o (_ : Unit) => nI o) n (by omega) (fun o _ => ∀ j, j < o → (us g d j || decide (ma p ≤ ma j)) = true) (fun o => o = _) ?_ ?_ 0 () (by omega) (fun j hj => by omega)
  · rintro o - ag ho hJ ih
    show Tu_hasLeastMark_L2 (nI p) M _ ag (nI o) = _
    unfold Tu_hasLeastMark_L2
    have m1 := hw.2.2.1 o (by omega)
    have m2 := hw.2.2.1 p (by omega)
    have hgo : (us g d o || decide (ma p ≤ ma o)) = true → ag (nI o + 1) = some (cI (al n (fun o => us g d o || decide (ma p ≤ ma o)) = true)) := fun hb => by
      rw [nI_1]
      refine ih () (fun j hj => ?_)
      by_cases e : j = o
      · subst e; exact hb
      · exact hJ j (by omega)
    rw [h.2.1, if_neg (by rw [nI_leI (by omega) (by omega)]; omega), a9, SP_holds_eq u a8 o (by omega), bind_s, a10 o (by omega)]
    by_cases c : us g d o = true
    · rw [if_neg (by rw [cI_0]; exact not_not_intro c)]
      exact hgo (by rw [c, Bool.true_or])
    · rw [if_pos (by rw [cI_0]; exact c), SP_at_nI (by omega) (by omega), bind_s, SP_at_nI (by omega) (by omega), bind_s, h.2.2 o (by omega), h.2.2 p (by omega)]
      by_cases c2 : ma p ≤ ma o
      · rw [if_pos (by rw [nI_leI (by omega) (by omega)]; exact c2)]
        exact hgo (by rw [decide_eq_true c2, Bool.or_true])
      · rw [if_neg (by rw [nI_leI (by omega) (by omega)]; exact c2), show al n (fun o => us g d o || decide (ma p ≤ ma o)) = false from al_f ho (by rw [b_f c, decide_eq_false c2]; rfl)]
        rfl
  · rintro - ag hJ
    show Tu_hasLeastMark_L2 (nI p) M _ ag (nI n) = _
    unfold Tu_hasLeastMark_L2
    rw [h.2.1, if_pos (by rw [nI_leI (by omega) (by omega)]; omega), show al n (fun o => us g d o || decide (ma p ≤ ma o)) = true from al_iff.mpr hJ]
    rfl
def BH (S : Nat → Nat) (lead d : Nat) (g b : Nat → Nat) : Prop := ∃ z, 1 ≤ z ∧ z ≤ d ∧ (∀ e, 1 ≤ e → e < z → sg S lead (g 0) (g e) = sg S lead (b 0) (b e)) ∧ sg S lead (b 0) (b z) < sg S lead (g 0) (g z)
theorem Tu_behindBest_eq {M : Mem} {n d p lead : Nat} {S ma g b : Nat → Nat} (hw : TWF n ma S) (h : TW M n ma S) (hl : LF M n d g) (hp : p < n) (hb : AR M 18 n b) (hbn : ∀ x, x < n → b x < n) (hl3 : lead < 3) : ∃ bb : Bool, Tu_behindBest (nI lead) (nI p) M = some (cI (bb = true)) ∧ (bb = true → BH S lead d (pg g d p) b) := by
  have h7 : n ≤ 7 := hw.2.1
  have ha := al17
  have ha8 := al18
  obtain ⟨a1, a3, a4, a5, -⟩ := hl
  unfold Tu_behindBest
  refine LOOP_up (fun z (_ : Unit) => nI z) (d + 1) (by omega) (fun z _ => 1 ≤ z ∧ ∀ e, 1 ≤ e → e < z → sg S lead (pg g d p 0) (pg g d p e) = sg S lead (b 0) (b e)) (fun o => ∃ bb : Bool, o = some (cI (bb = true)) ∧ (bb = true → BH S lead d (pg g d p) b)) ?_ ?_ 1 () (by omega) ⟨Nat.le_refl _, fun e h1 h2 => by omega⟩
  · rintro z - ag hz ⟨hz1, hJ⟩ ih
    show ∃ bb : Bool, Tu_behindBest_L3 (nI lead) (nI p) M _ ag (nI z) = _ ∧ _
    unfold Tu_behindBest_L3
    have g0 : pg g d p 0 = g 0 := pg_l (by omega)
    have q0 := a3.1 0 (by omega)
    have b0 := hbn 0 (by omega)
    have bz := hbn z (by omega)
    rw [a4, if_neg (by rw [nI_ltI (by omega) (by omega)]; omega), show (0 : Int32) = nI 0 from rfl, SP_at_nI (by omega) (by omega), bind_s, jp_e]
    have hs : ∀ q, q < n → q = pg g d p z → ∃ bb : Bool, (Option.bind (To_strength (nI lead) (M 17 0) (nI q) M) fun r_2 => Option.bind (SP_at 18 (nI 0) M) fun r_3 => Option.bind (SP_at 18 (nI z) M) fun r_4 => Option.bind (To_strength (nI lead) r_3 r_4 M) fun r_5 => if r_2 = r_5 then ag (nI z + 1) else if r_2 ≤ r_5 then some (nI 0) else some 1) = some (cI (bb = true)) ∧ (bb = true → BH S lead d (pg g d p) b) := fun q hq e => by
      rw [a5 0 (by omega), To_strength_eq h.1 hl3 (by omega) (by omega), bind_s, SP_at_nI (by omega) (by omega), bind_s, SP_at_nI (by omega) (by omega), bind_s, hb 0 (by omega), hb z (by omega), To_strength_eq h.1 hl3 (by omega) (by omega), bind_s]
      have s1 := sg_lt h.1 hl3 (x := g 0) (z := q) (by omega) (by omega)
      have s2 := sg_lt h.1 hl3 (x := b 0) (z := b z) (by omega) (by omega)
      by_cases c : sg S lead (g 0) q = sg S lead (b 0) (b z)
      · rw [if_pos (by rw [c]), nI_1]
        refine ih () ⟨by omega, fun e' h1 h2 => ?_⟩
        by_cases c2 : e' = z
        · rw [c2, g0, ← e]; exact c
        · exact hJ e' h1 (by omega)
      · rw [if_neg (by rw [nI_eq (by omega) (by omega)]; exact c)]
        by_cases c2 : sg S lead (g 0) q ≤ sg S lead (b 0) (b z)
        · rw [if_pos (by rw [nI_leI (by omega) (by omega)]; exact c2)]
          exact ⟨false, rfl, fun z => by cases z⟩
        · rw [if_neg (by rw [nI_leI (by omega) (by omega)]; exact c2)]
          exact ⟨true, rfl, fun _ => ⟨z, hz1, by omega, hJ, by rw [g0, ← e]; omega⟩⟩
    by_cases cz : z = d
    · rw [if_pos (by rw [cz])]
      exact hs p hp (by rw [cz, pg_s])
    · have qz := a3.1 z (by omega)
      rw [if_neg (by rw [nI_eq (by omega) (by omega)]; exact cz), SP_at_nI (by omega) (by omega), bind_s, a5 z (by omega)]
      exact hs (g z) qz (pg_n cz).symm
  · rintro - ag ⟨hz1, hJ⟩
    show ∃ bb : Bool, Tu_behindBest_L3 (nI lead) (nI p) M _ ag (nI (d + 1)) = _ ∧ _
    unfold Tu_behindBest_L3
    rw [a4, if_pos (by rw [nI_ltI (by omega) (by omega)]; omega)]
    exact ⟨false, rfl, fun z => by cases z⟩
set_option maxHeartbeats 1000000 in
theorem Tu_lessThanBest_eq {M : Mem} {n lead : Nat} {S ma g b : Nat → Nat} (hw : TWF n ma S) (h9 : S9 S) (h : TW M n ma S) (hg : AR M 17 n g) (hb : AR M 18 n b) (hgn : ∀ x, x < n → g x < n) (hbn : ∀ x, x < n → b x < n) (hl3 : lead < 3) (hpre : ∀ j, j < n + (lead * n + 0) * n → rwF S ma n g j = rwF S ma n b j) : ∃ bb : Bool, Tu_lessThanBest (nI lead) M = some (cI (bb = true)) ∧ (bb = true ↔ rwN S ma n g < rwN S ma n b) := by
  have h7 : n ≤ 7 := hw.2.1
  have ha := al17
  have ha8 := al18
  have r1 := rw_lt hw h9 hgn
  have r2 := rw_lt hw h9 hbn
  unfold Tu_lessThanBest
  refine LOOP_up (fun k (_ : Unit) => nI k) 3 (by omega) (fun k _ => ∀ j, j < n + (k * n + 0) * n → rwF S ma n g j = rwF S ma n b j) (fun o => ∃ bb : Bool, o = some (cI (bb = true)) ∧ (bb = true ↔ rwN S ma n g < rwN S ma n b)) ?_ ?_ lead () (by omega) hpre
  · rintro k - ag hk hJ ih
    show ∃ bb : Bool, Tu_lessThanBest_L2 M _ ag (nI k) = _ ∧ _
    unfold Tu_lessThanBest_L2
    rw [if_neg (by rw [show (3 : Int32) = nI 3 from rfl, nI_leI (by omega) (by omega)]; omega)]
    refine LOOP_up (fun x (_ : Unit) => nI x) n (by omega) (fun x _ => ∀ j, j < n + (k * n + x) * n → rwF S ma n g j = rwF S ma n b j) (fun o => ∃ bb : Bool, o = some (cI (bb = true)) ∧ (bb = true ↔ rwN S ma n g < rwN S ma n b)) ?_ ?_ 0 () (by omega) hJ
    · rintro x - ag2 hx hJ2 ih2
      show ∃ bb : Bool, Tu_lessThanBest_L10 (nI k) M _ ag2 (nI x) = _ ∧ _
      unfold Tu_lessThanBest_L10
      rw [h.2.1, if_neg (by rw [nI_leI (by omega) (by omega)]; omega)]
      refine LOOP_up (fun z (_ : Unit) => nI z) n (by omega) (fun z _ => ∀ j, j < n + (k * n + x) * n + z → rwF S ma n g j = rwF S ma n b j) (fun o => ∃ bb : Bool, o = some (cI (bb = true)) ∧ (bb = true ↔ rwN S ma n g < rwN S ma n b)) ?_ ?_ 0 () (by omega) hJ2
      · rintro z - ag3 hz hJ3 ih3
        show ∃ bb : Bool, Tu_lessThanBest_L22 (nI k) (nI x) M _ ag3 (nI z) = _ ∧ _
        unfold Tu_lessThanBest_L22
        have q1 := hgn x hx
        have q2 := hgn z hz
        have q3 := hbn x hx
        have q4 := hbn z hz
        have hix := (ix_b h7 hk hx hz).1
        rw [h.2.1, if_neg (by rw [nI_leI (by omega) (by omega)]; omega), SP_at_nI (by omega) (by omega), bind_s, SP_at_nI (by omega) (by omega), bind_s, hg x hx, hg z hz, To_strength_eq h.1 hk (by omega) (by omega), bind_s, SP_at_nI (by omega) (by omega), bind_s, SP_at_nI (by omega) (by omega), bind_s, hb x hx, hb z hz, To_strength_eq h.1 hk (by omega) (by omega), bind_s]
        have s1 := sg_lt h.1 hk (x := g x) (z := g z) (by omega) (by omega)
        have s2 := sg_lt h.1 hk (x := b x) (z := b z) (by omega) (by omega)
        have e1 := rw_k (S := S) (ma := ma) (f := g) (k := k) h7 hx hz
        have e2 := rw_k (S := S) (ma := ma) (f := b) (k := k) h7 hx hz
        by_cases c : sg S k (g x) (g z) = sg S k (b x) (b z)
        · rw [if_pos (by rw [c]), nI_1]
          refine ih3 () (fun j hj => ?_)
          by_cases c2 : j = n + (k * n + x) * n + z
          · rw [c2, e1, e2]; exact c
          · exact hJ3 j (by omega)
        · rw [if_neg (by rw [nI_eq (by omega) (by omega)]; exact c)]
          by_cases c2 : sg S k (b x) (b z) ≤ sg S k (g x) (g z)
          · rw [if_pos (by rw [nI_leI (by omega) (by omega)]; exact c2)]
            have := num_lex r2 hix (fun j hj => (hJ3 j hj).symm) (by rw [e1, e2]; omega)
            exact ⟨false, rfl, fun z => (by cases z), fun z => by unfold rwN at z; omega⟩
          · rw [if_neg (by rw [nI_leI (by omega) (by omega)]; exact c2)]
            exact ⟨true, rfl, fun _ => num_lex r1 hix hJ3 (by rw [e1, e2]; omega), fun _ => rfl⟩
      · rintro - ag3 hJ3
        show ∃ bb : Bool, Tu_lessThanBest_L22 (nI k) (nI x) M _ ag3 (nI n) = _ ∧ _
        unfold Tu_lessThanBest_L22
        have ei : n + (k * n + x) * n + n = n + (k * n + (x + 1)) * n := by rw [← Nat.add_assoc (k * n) x 1, Nat.succ_mul (k * n + x) n, Nat.add_assoc n]
        rw [h.2.1, if_pos (by rw [nI_leI (by omega) (by omega)]; omega), nI_1]
        exact ih2 () (by rw [← ei]; exact hJ3)
    · rintro - ag2 hJ2
      show ∃ bb : Bool, Tu_lessThanBest_L10 (nI k) M _ ag2 (nI n) = _ ∧ _
      unfold Tu_lessThanBest_L10
      have ei : n + (k * n + n) * n = n + ((k + 1) * n + 0) * n := by rw [Nat.succ_mul, Nat.add_zero]
      rw [h.2.1, if_pos (by rw [nI_leI (by omega) (by omega)]; omega), nI_1]
      exact ih () (by rw [← ei]; exact hJ2)
  · rintro - ag hJ
    show ∃ bb : Bool, Tu_lessThanBest_L2 M _ ag (nI 3) = _ ∧ _
    unfold Tu_lessThanBest_L2
    rw [if_pos (by decide)]
    have e : rwN S ma n g = rwN S ma n b := num_cg (fun j hj => hJ j (by rw [Nat.add_zero]; exact hj))
    exact ⟨false, rfl, fun z => (by cases z), fun z => by omega⟩
theorem Tu_keepBest_wp {M : Mem} {n : Nat} {g : Nat → Nat} (h7 : n ≤ 7) (hn : M 1 2 = nI n) (hg : AR M 17 n g) : wp (Tu_keepBest M) (fun M' => Fr [18] M M' ∧ AR M' 18 n g) := by
  have ha := al17
  have ha8 := al18
  unfold Tu_keepBest
  refine LOOP_up (fun x (t : Mem) => (nI x, t)) n (by omega) (fun x t => Fr [18] M t ∧ AR t 18 x g) (fun o => wp o _) ?_ ?_ 0 M (by omega) ⟨Fr.rf, fun j hj => by omega⟩
  · rintro x t ag hx ⟨hf, k⟩ ih
    show wp (Tu_keepBest_L2 _ ag (nI x) t) _
    unfold Tu_keepBest_L2
    rw [show t 1 2 = nI n from (congrFun (hf 1 (by decide)) 2).trans hn, if_neg (by rw [nI_leI (by omega) (by omega)]; omega), SP_at_nI (by omega) (by omega), bind_s, SP_put_nI (by omega) (by omega), bind_s, nI_1, hf 17 (by decide), hg x hx]
    refine ih _ ⟨hf.tr (Fr.st (by simp)), fun j hj => ?_⟩
    rw [st2_s]
    by_cases e : j = x
    · subst e; rw [upd_s]
    · rw [upd_n e]; exact k j (by omega)
  · rintro t ag ⟨hf, k⟩
    show wp (Tu_keepBest_L2 _ ag (nI n) t) _
    unfold Tu_keepBest_L2
    rw [show t 1 2 = nI n from (congrFun (hf 1 (by decide)) 2).trans hn, if_pos (by rw [nI_leI (by omega) (by omega)]; omega)]
    exact wp_some ⟨hf, k⟩
set_option maxHeartbeats 1000000 in
theorem Tu_bestAsNumber_eq {M : Mem} {n : Nat} {S ma b : Nat → Nat} (hw : TWF n ma S) (h9 : S9 S) (h : TW M n ma S) (hb : AR M 18 n b) (hbn : ∀ x, x < n → b x < n) : Tu_bestAsNumber M = some (nI (rwN S ma n b % 1000000007)) := by
  have h7 : n ≤ 7 := hw.2.1
  have ha := al2
  have ha8 := al18
  have r2 := rw_lt hw h9 hbn
  unfold Tu_bestAsNumber
  refine LOOP_fun (fun x => (lN (num (rwF S ma n b) x % 1000000007), nI x)) n (by omega) (fun _ => some (nI (rwN S ma n b % 1000000007))) ?_ ?_ 0 (Nat.zero_le _)
  · intro x ag hx ih
    show Tu_bestAsNumber_L5 M _ ag _ (nI x) = _
    unfold Tu_bestAsNumber_L5
    have q := hbn x hx
    have e1 := rw_m (S := S) (ma := ma) (f := b) hx
    rw [h.2.1, if_neg (by rw [nI_leI (by omega) (by omega)]; omega), SP_at_nI (by omega) (by omega), bind_s, hb x hx, SP_at_nI (by omega) (by omega), bind_s, h.2.2 _ (by omega), ← e1]
    unfold Tu_behind
    rw [bind_s, bhd (Nat.mod_lt _ (by omega)) (r2 x (by omega)), ← num_md, nI_1]
    exact ih
  intro ag
  show Tu_bestAsNumber_L5 M _ ag _ (nI n) = _
  unfold Tu_bestAsNumber_L5
  rw [h.2.1, if_pos (by rw [nI_leI (by omega) (by omega)]; omega)]
  dsimp only
  refine (show ∀ X, X = lN (num (rwF S ma n b) (n + 0 * n * n) % 1000000007) → LOOP _ FU (X, (0 : Int32)) = _ from ?_) (lN (num (rwF S ma n b) n % 1000000007)) (by rw [Nat.zero_mul, Nat.zero_mul, Nat.add_zero])
  intro X hX
  subst hX
  refine LOOP_fun (fun k => (lN (num (rwF S ma n b) (n + k * n * n) % 1000000007), nI k)) 3 (by omega) (fun _ => some (nI (rwN S ma n b % 1000000007))) ?_ ?_ 0 (Nat.zero_le _)
  · intro k ag hk ih
    show Tu_bestAsNumber_L44 M _ ag _ (nI k) = _
    unfold Tu_bestAsNumber_L44
    rw [if_neg (by rw [show (3 : Int32) = nI 3 from rfl, nI_leI (by omega) (by omega)]; omega)]
    refine LOOP_fun (fun x => (lN (num (rwF S ma n b) (n + (k * n + x) * n) % 1000000007), nI x)) n (by omega) (fun _ => some (nI (rwN S ma n b % 1000000007))) ?_ ?_ 0 (Nat.zero_le _)
    · intro x ag2 hx ih2
      show Tu_bestAsNumber_L53 (nI k) M _ ag2 _ (nI x) = _
      unfold Tu_bestAsNumber_L53
      rw [h.2.1, if_neg (by rw [nI_leI (by omega) (by omega)]; omega)]
      refine LOOP_fun (fun z => (lN (num (rwF S ma n b) (n + (k * n + x) * n + z) % 1000000007), nI z)) n (by omega) (fun _ => some (nI (rwN S ma n b % 1000000007))) ?_ ?_ 0 (Nat.zero_le _)
      · intro z ag3 hz ih3
        show Tu_bestAsNumber_L65 (nI k) (nI x) M _ ag3 _ (nI z) = _
        unfold Tu_bestAsNumber_L65
        have q1 := hbn x hx
        have q2 := hbn z hz
        have e1 := rw_k (S := S) (ma := ma) (f := b) (k := k) h7 hx hz
        have hix := (ix_b h7 hk hx hz).1
        rw [h.2.1, if_neg (by rw [nI_leI (by omega) (by omega)]; omega), SP_at_nI (by omega) (by omega), bind_s, SP_at_nI (by omega) (by omega), bind_s, hb x hx, hb z hz, To_strength_eq h.1 hk (by omega) (by omega), bind_s, ← e1]
        unfold Tu_behind
        rw [bind_s, bhd (Nat.mod_lt _ (by omega)) (r2 _ hix), ← num_md, nI_1]
        exact ih3
      · intro ag3
        show Tu_bestAsNumber_L65 (nI k) (nI x) M _ ag3 _ (nI n) = _
        unfold Tu_bestAsNumber_L65
        have ei : n + (k * n + x) * n + n = n + (k * n + (x + 1)) * n := by rw [← Nat.add_assoc (k * n) x 1, Nat.succ_mul (k * n + x) n, Nat.add_assoc n]
        rw [h.2.1, if_pos (by rw [nI_leI (by omega) (by omega)]; omega)]
        dsimp only
        rw [ei, nI_1]
        exact ih2
    · intro ag2
      show Tu_bestAsNumber_L53 (nI k) M _ ag2 _ (nI n) = _
      unfold Tu_bestAsNumber_L53
      have ei : n + (k * n + n) * n = n + (k + 1) * n * n := by rw [Nat.succ_mul]
      rw [h.2.1, if_pos (by rw [nI_leI (by omega) (by omega)]; omega)]
      dsimp only
      rw [ei, nI_1]
      exact ih
  · intro ag
    show Tu_bestAsNumber_L44 M _ ag _ (nI 3) = _
    unfold Tu_bestAsNumber_L44
    rw [if_pos (by decide)]
    dsimp only
    rw [lN_i]
    rfl
