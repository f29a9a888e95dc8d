/-! by hand: the class's search: begin, lift, step; keeps -/
def clr (u p : Nat) : Nat := if u.testBit p then u - 2 ^ p else u
theorem mk_clr : ∀ u, u < 128 → ∀ p, p < 7 → nI u &&& (((1 : Int32) <<< (nI p &&& 31)) ^^^ (-1)) = nI (clr u p) ∧ clr u p < 128 := by decide +kernel
theorem clr_bit : ∀ u, u < 128 → ∀ p, p < 7 → ∀ q, q < 7 → (clr u p).testBit q = (u.testBit q && !(q == p)) := by decide +kernel
theorem set_bit : ∀ u, u < 128 → ∀ p, p < 7 → (u ||| 2 ^ p) < 128 ∧ ∀ q, q < 7 → (u ||| 2 ^ p).testBit q = (u.testBit q || (q == p)) := by decide +kernel
theorem SP_holds_eq : ∀ u, u < 128 → ∀ p, p < 7 → SP_holds (nI u) (nI p) = some (cI (u.testBit p = true)) := by decide +kernel
theorem mk_set {u p : Nat} (hp : p < 7) : nI u ||| ((1 : Int32) <<< (nI p &&& 31)) = nI (u ||| 2 ^ p) := by rw [shl1 p hp, nI_or]
/-- the place in the search: depth d, those ahead g, the next one to try c -/
def SE (M : Mem) (n d c : Nat) (g : Nat → Nat) : Prop := d ≤ n ∧ c ≤ n ∧ IJ d n g ∧ M 16 3 = nI d ∧ AR M 17 d g ∧ (d < n → M 17 d = nI c - 1) ∧ (0 < c → us g d (c - 1) = false) ∧ ∃ u, u < 128 ∧ M 16 4 = nI u ∧ ∀ p, p < 7 → u.testBit p = (us g d p || (decide (0 < c) && (p == c - 1)))
def LF (M : Mem) (n d : Nat) (g : Nat → Nat) : Prop := d < n ∧ IJ d n g ∧ M 16 3 = nI d ∧ AR M 17 d g ∧ ∃ u, u < 128 ∧ M 16 4 = nI u ∧ ∀ p, p < 7 → u.testBit p = us g d p
theorem SE.fr {M M' : Mem} {n d c : Nat} {g : Nat → Nat} (h : SE M n d c g) (h1 : M' 16 = M 16) (h2 : M' 17 = M 17) : SE M' n d c g := by
  obtain ⟨a1, a2, a3, a4, a5, a6, a7, a8⟩ := h
  exact ⟨a1, a2, a3, by rw [h1]; exact a4, a5.fr h2, by rw [h2]; exact a6, a7, by rw [h1]; exact a8⟩
theorem IJ_0 {n : Nat} {g : Nat → Nat} : IJ 0 n g := ⟨fun e he => by omega, fun e e' he => by omega⟩
theorem al17 : aln 17 = 7 := rfl
theorem Tu_begin_wp {M : Mem} {n : Nat} {g : Nat → Nat} : wp (Tu_begin M) (fun M' => Fr [16, 17] M M' ∧ SE M' n 0 0 g) := by
  have ha := al17
  unfold Tu_begin
  rw [nm_e', nm_e', show (0 : Int32) = nI 0 from rfl, SP_put_nI (by omega) (by omega), bind_s]
  refine wp_some ⟨((Fr.st (by simp)).tr (Fr.st (by simp))).tr (Fr.st (by simp)), Nat.zero_le _, Nat.zero_le _, IJ_0, ?_, fun j hj => by omega, fun _ => ?_, fun z => by omega, 0, by omega, ?_, fun p hp => ?_⟩
  · rw [st2_n (by decide), st2_s, upd_n (by decide), st2_s, upd_s]
  · rw [st2_s, upd_s]; rfl
  · rw [st2_n (by decide), st2_s, upd_s]
  · rw [us_0, Nat.zero_testBit]; rfl
theorem nI_sp (c : Nat) : nI c - 1 + 1 = nI c := by
  rw [i_eq, Int32.toInt_add, Int32.toInt_sub]
  simp
theorem Tu_lift_wp {M : Mem} {n d c : Nat} {g : Nat → Nat} (h7 : n ≤ 7) (hd : d < n) (h : SE M n d c g) : wp (Tu_lift M) (fun r => Fr [16] M r.2 ∧ r.1 = nI c ∧ LF r.2 n d g) := by
  obtain ⟨a1, a2, a3, a4, a5, a6, a7, u, a8, a9, a10⟩ := h
  have ha := al17
  unfold Tu_lift
  rw [a4, SP_at_nI (by omega) (by omega), bind_s, a6 hd, nI_sp]
  cases c with
  | zero =>
    rw [if_pos down0]
    refine wp_some ⟨Fr.rf, rfl, hd, a3, a4, a5, u, a8, a9, fun p hp => ?_⟩
    rw [a10 p hp, show decide (0 < 0) = false from rfl, Bool.false_and, Bool.or_false]
  | succ c =>
    rw [nI_pred, if_neg (nI_pos (by omega)), nm_e', a9, (mk_clr u a8 c (by omega)).1]
    refine wp_some ⟨Fr.st (by simp), rfl, hd, a3, ?_, ?_, clr u c, (mk_clr u a8 c (by omega)).2, ?_, fun p hp => ?_⟩
    · show st2 M 16 4 (nI (clr u c)) 16 3 = _
      rw [st2_s, upd_n (by decide)]; exact a4
    · exact a5.fr (M' := st2 M 16 4 (nI (clr u c))) (st2_n (by decide))
    · show st2 M 16 4 (nI (clr u c)) 16 4 = _
      rw [st2_s, upd_s]
    · rw [clr_bit u a8 c (by omega) p hp, a10 p hp]
      have q := a7 (by omega)
      rw [show c + 1 - 1 = c by omega] at q ⊢
      by_cases e : p = c
      · rw [e, q]; simp
      · rw [show (p == c) = false from beq_eq_false_iff_ne.mpr e]; simp
theorem Tu_fwd {M : Mem} {n d p : Nat} {g : Nat → Nat} (h7 : n ≤ 7) (h : LF M n d g) (hp : p < n) (hu : us g d p = false) : wp (Tu_step (nI p) M) (fun M' => Fr [16, 17] M M' ∧ SE M' n (d + 1) 0 (pg g d p)) := by
  obtain ⟨a1, a3, a4, a5, u, a8, a9, a10⟩ := h
  have ha := al17
  unfold Tu_step
  rw [if_pos (nI_nn (by omega)), a4, SP_put_nI (by omega) (by omega), bind_s, nm_e', nm_e', show st2 M 17 d (nI p) 16 4 = nI u from by rw [st2_n (by decide)]; exact a9, mk_set (by omega)]
  have e3 : ∀ v, st2 (st2 M 17 d (nI p)) 16 4 v 16 3 = nI d := fun v => by rw [st2_s, upd_n (by decide), st2_n (by decide)]; exact a4
  rw [e3, nI_1]
  obtain ⟨M3, hM3⟩ : ∃ M3, M3 = st2 (st2 (st2 M 17 d (nI p)) 16 4 (nI (u ||| 2 ^ p))) 16 3 (nI (d + 1)) := ⟨_, rfl⟩
  rw [← hM3]
  have b3 : M3 16 3 = nI (d + 1) := by rw [hM3, st2_s, upd_s]
  have b4 : M3 16 4 = nI (u ||| 2 ^ p) := by rw [hM3, st2_s, upd_n (by decide), st2_s, upd_s]
  have b17 : M3 17 = upd (M 17) d (nI p) := by rw [hM3, st2_n (by decide), st2_n (by decide), st2_s]
  have hf : Fr [16, 17] M M3 := by rw [hM3]; exact ((Fr.st (by simp)).tr (Fr.st (by simp))).tr (Fr.st (by simp))
  have hA : AR M3 17 (d + 1) (pg g d p) := fun j hj => by
    rw [b17]
    by_cases c : j = d
    · rw [c, upd_s, pg_s]
    · rw [upd_n c, pg_n c]; exact a5 j (by omega)
  have hI := a3.pg hp hu
  have hb := set_bit u a8 p (by omega)
  have hbit : ∀ q, q < 7 → (u ||| 2 ^ p).testBit q = (us (pg g d p) (d + 1) q || (decide (0 < 0) && (q == 0 - 1))) := fun q hq => by
    rw [hb.2 q hq, a10 q hq, show decide (0 < 0) = false from rfl, Bool.false_and, Bool.or_false]
    by_cases c : us g d q = true
    · rw [c, us_s.mpr (Or.inl ((us_cg (fun e he => pg_l he)).trans c)), Bool.true_or]
    · by_cases c2 : q = p
      · rw [c2, us_s.mpr (Or.inr pg_s), beq_self_eq_true, Bool.or_true]
      · rw [b_f c, beq_eq_false_iff_ne.mpr c2]
        refine (b_f (fun z => ?_)).symm
        rcases us_s.mp z with z | z
        · exact c ((us_cg (fun e he => pg_l he)).symm.trans z)
        · rw [pg_s] at z; exact c2 z.symm
  rw [b3]
  by_cases c : d + 1 < 7
  · rw [SP_put_nI (by omega) (by omega), bind_s]
    refine wp_some ⟨hf.tr (Fr.st (by simp)), by omega, Nat.zero_le _, hI, ?_, ?_, fun _ => ?_, fun z => by omega, u ||| 2 ^ p, hb.1, ?_, hbit⟩
    · rw [st2_n (by decide)]; exact b3
    · intro j hj
      rw [st2_s, upd_n (by omega)]; exact hA j hj
    · rw [st2_s, upd_s]; rfl
    · rw [st2_n (by decide)]; exact b4
  · rw [SP_put_v (by omega), if_neg (by rw [inrB_iff, inr_nI (by omega)]; omega), bind_s]
    exact wp_some ⟨hf, by omega, Nat.zero_le _, hI, b3, hA, fun z => by omega, fun z => by omega, u ||| 2 ^ p, hb.1, b4, hbit⟩
theorem Tu_back {M : Mem} {n d : Nat} {g : Nat → Nat} (h7 : n ≤ 7) (h : LF M n d g) : wp (Tu_step (-1) M) (fun M' => Fr [16] M M' ∧ ((d = 0 ∧ M' 16 3 = -1) ∨ ∃ d', d = d' + 1 ∧ SE M' n d' (g d' + 1) g)) := by
  obtain ⟨a1, a3, a4, a5, u, a8, a9, a10⟩ := h
  unfold Tu_step
  rw [if_neg m1_nn, nm_e', a4]
  refine wp_some ⟨Fr.st (by simp), ?_⟩
  cases d with
  | zero => exact Or.inl ⟨rfl, by rw [st2_s, upd_s]; rfl⟩
  | succ d =>
    rw [nI_pred]
    refine Or.inr ⟨d, rfl, by omega, ?_, a3.le (by omega), by rw [st2_s, upd_s], (a5.le (by omega)).fr (st2_n (by decide)), fun _ => ?_, fun _ => ?_, u, a8, ?_, fun p hp => ?_⟩
    · have := a3.1 d (by omega); omega
    · rw [st2_n (by decide), nI_pred]; exact a5 d (by omega)
    · rw [show g d + 1 - 1 = g d by omega]; exact a3.fr
    · rw [st2_s, upd_n (by decide)]; exact a9
    · rw [a10 p hp, show g d + 1 - 1 = g d by omega, show decide (0 < g d + 1) = true from decide_eq_true (by omega), Bool.true_and]
      by_cases c : us g d p = true
      · rw [c, us_s.mpr (Or.inl c), Bool.true_or]
      · by_cases c2 : p = g d
        · rw [c2, us_s.mpr (Or.inr rfl), beq_self_eq_true, Bool.or_true]
        · rw [b_f c, beq_eq_false_iff_ne.mpr c2]
          refine b_f (fun z => ?_)
          rcases us_s.mp z with z | z
          · exact c z
          · exact c2 z.symm
/-! keeps -/
def kpB (S : Nat → Nat) (x z x' z' : Nat) : Bool := al 3 (fun k => sg S k x z == sg S k x' z' && sg S k z x == sg S k z' x')
def kaB (S ma : Nat → Nat) (g : Nat → Nat) (d p : Nat) : Bool := ma d == ma p && al d (fun e => kpB S d e p (g e))
def duB (fx d x p y : Nat) : Bool := if d < fx then p == d else ((d == x) == (p == y))
def okK (S ma : Nat → Nat) (fx x y : Nat) (g : Nat → Nat) (d p : Nat) : Bool := duB fx d x p y && !(us g d p) && kaB S ma g d p && kpB S d x p y
theorem Tu_keeps_eq {M : Mem} {S : Nat → Nat} {x z x' z' : Nat} (h : Tbl M 3 S) (hx : x < 7) (hz : z < 7) (hx' : x' < 7) (hz' : z' < 7) : Tu_keeps (nI x) (nI z) (nI x') (nI z') M = some (cI (kpB S x z x' z' = true)) := by
  unfold Tu_keeps
  refine LOOP_up (fun k (_ : Unit) => nI k) 3 (by omega) (fun k _ => ∀ j, j < k → (sg S j x z == sg S j x' z' && sg S j z x == sg S j z' x') = true) (fun o => o = _) ?_ ?_ 0 () (by omega) (fun j hj => by omega)
  · rintro k - ag hk hJ ih
    show Tu_keeps_L3 _ _ _ _ M _ ag (nI k) = _
    unfold Tu_keeps_L3
    have hbad : (sg S k x z == sg S k x' z' && sg S k z x == sg S k z' x') = false → some (0 : Int32) = some (cI (kpB S x z x' z' = true)) := fun hb => by
      rw [show kpB S x z x' z' = false from al_f hk hb]; rfl
    rw [if_neg (by rw [show (3 : Int32) = nI 3 from rfl, nI_leI (by omega) (by omega)]; omega), To_strength_eq h hk hx hz, bind_s, To_strength_eq h hk hx' hz', bind_s, To_strength_eq h hk hz hx, bind_s, To_strength_eq h hk hz' hx', bind_s]
    have s1 := sg_lt h hk hx hz
    have s2 := sg_lt h hk hx' hz'
    have s3 := sg_lt h hk hz hx
    have s4 := sg_lt h hk hz' hx'
    by_cases c1 : sg S k x z = sg S k x' z'
    · rw [if_pos (by rw [c1])]
      by_cases c2 : sg S k z x = sg S k z' x'
      · rw [if_pos (by rw [c2]), nI_1]
        refine ih () (fun j hj => ?_)
        by_cases e : j = k
        · subst e; rw [Bool.and_eq_true, beq_iff_eq, beq_iff_eq]; exact ⟨c1, c2⟩
        · exact hJ j (by omega)
      · rw [if_neg (by rw [nI_eq (by omega) (by omega)]; exact c2)]
        exact hbad (by rw [beq_eq_false_iff_ne.mpr c2, Bool.and_false])
    · rw [if_neg (by rw [nI_eq (by omega) (by omega)]; exact c1)]
      exact hbad (by rw [beq_eq_false_iff_ne.mpr c1, Bool.false_and])
  · rintro - ag hJ
    show Tu_keeps_L3 _ _ _ _ M _ ag (nI 3) = _
    unfold Tu_keeps_L3
    rw [if_pos (by decide), show kpB S x z x' z' = true from al_iff.mpr hJ]; rfl
theorem Tu_keepsAhead_eq {M : Mem} {n d p : Nat} {S ma g : Nat → Nat} (hw : TWF n ma S) (h : TW M n ma S) (hl : LF M n d g) (hp : p < n) : Tu_keepsAhead (nI p) M = some (cI (kaB S ma g d p = true)) := by
  obtain ⟨a1, a3, a4, a5, -⟩ := hl
  have h7 : n ≤ 7 := hw.2.1
  have ha := al17
  unfold Tu_keepsAhead
  rw [a4, To_sameMark_eq h.2.2 hw.2.2.1 (by omega) (by omega), bind_s]
  by_cases c : ma d = ma p
  · rw [if_neg (by rw [cI_0]; exact not_not_intro c)]
    refine LOOP_up (fun e (_ : Unit) => nI e) d (by omega) (fun e _ => ∀ j, j < e → kpB S d j p (g j) = true) (fun o => o = _) ?_ ?_ 0 () (by omega) (fun j hj => by omega)
    · rintro e - ag he hJ ih
      show Tu_keepsAhead_L16 (nI p) M _ ag (nI e) = _
      unfold Tu_keepsAhead_L16
      have := a3.1 e he
      rw [a4, if_neg (by rw [nI_leI (by omega) (by omega)]; omega), SP_at_nI (by omega) (by omega), bind_s, a5 e he, Tu_keeps_eq h.1 (by omega) (by omega) (by omega) (by omega), bind_s]
      by_cases c2 : kpB S d e p (g e) = true
      · rw [if_neg (by rw [cI_0]; exact not_not_intro c2), nI_1]
        refine ih () (fun j hj => ?_)
        by_cases q : j = e
        · subst q; exact c2
        · exact hJ j (by omega)
      · rw [if_pos (by rw [cI_0]; exact c2), show kaB S ma g d p = false from ?_]
        · rfl
        · unfold kaB
          rw [al_f he (b_f c2), Bool.and_false]
    · rintro - ag hJ
      show Tu_keepsAhead_L16 (nI p) M _ ag (nI d) = _
      unfold Tu_keepsAhead_L16
      rw [a4, if_pos (by rw [nI_leI (by omega) (by omega)]; omega), show kaB S ma g d p = true from ?_]
      · rfl
      · unfold kaB
        rw [beq_iff_eq.mpr c, Bool.true_and]; exact al_iff.mpr hJ
  · rw [if_pos (by rw [cI_0]; exact c), show kaB S ma g d p = false from by unfold kaB; rw [beq_eq_false_iff_ne.mpr c, Bool.false_and]]
    rfl
theorem jp_due {β : Type} {K : Int32 → Option β} {fx d x p y : Nat} (h1 : fx < 100) (h2 : d < 100) (h3 : x < 100) (h4 : p < 100) (h5 : y < 100) :
    (jp K fun (k_1 : Int32 → Option β) => if nI fx ≤ nI d then jp (fun (s_2 : Int32) => jp (fun (s_3 : Int32) => if s_2 = s_3 then k_1 1 else k_1 0) fun (k_3 : Int32 → Option β) => if nI p = nI y then k_3 1 else k_3 0) fun (k_2 : Int32 → Option β) => if nI d = nI x then k_2 1 else k_2 0 else if nI p = nI d then k_1 1 else k_1 0) = K (cI (duB fx d x p y = true)) := by
  unfold duB
  simp only [jp_e, nI_leI (show fx < 2 ^ 31 by omega) (show d < 2 ^ 31 by omega), nI_eq (show p < 2 ^ 31 by omega) (show y < 2 ^ 31 by omega), nI_eq (show d < 2 ^ 31 by omega) (show x < 2 ^ 31 by omega), nI_eq (show p < 2 ^ 31 by omega) (show d < 2 ^ 31 by omega)]
  by_cases c1 : fx ≤ d
  · rw [if_pos c1, if_neg (show ¬ d < fx by omega)]
    by_cases c2 : d = x <;> by_cases c3 : p = y
    · rw [if_pos c2, if_pos c3, if_pos trivial, cI_t (by rw [beq_iff_eq.mpr c2, beq_iff_eq.mpr c3]; rfl)]
    · rw [if_pos c2, if_neg c3, if_neg (by decide), cI_f (by rw [beq_iff_eq.mpr c2, beq_eq_false_iff_ne.mpr c3]; decide)]
    · rw [if_neg c2, if_pos c3, if_neg (by decide), cI_f (by rw [beq_iff_eq.mpr c3, beq_eq_false_iff_ne.mpr c2]; decide)]
    · rw [if_neg c2, if_neg c3, if_pos trivial, cI_t (by rw [beq_eq_false_iff_ne.mpr c2, beq_eq_false_iff_ne.mpr c3]; rfl)]
  · rw [if_neg c1, if_pos (show d < fx by omega)]
    by_cases c2 : p = d
    · rw [if_pos c2, cI_t (beq_iff_eq.mpr c2)]
    · rw [if_neg c2, cI_f (by rw [beq_eq_false_iff_ne.mpr c2]; decide)]
/-- what a search for the next one finds -/
def NX (n c : Nat) (ok : Nat → Bool) (r : Int32) : Prop := (∃ p, c ≤ p ∧ p < n ∧ r = nI p ∧ ok p = true ∧ ∀ q, c ≤ q → q < p → ok q = false) ∨ (r = -1 ∧ ∀ q, c ≤ q → q < n → ok q = false)
theorem Tu_nextKeeping_wp {M : Mem} {n d c fx x y : Nat} {S ma g : Nat → Nat} (hw : TWF n ma S) (h : TW M n ma S) (hd : d < n) (hs : SE M n d c g) (hx : x < n) (hy : y < n) (hf : fx < n) : wp (Tu_nextKeeping (nI fx) (nI x) (nI y) M) (fun r => Fr [16] M r.2 ∧ LF r.2 n d g ∧ NX n c (okK S ma fx x y g d) r.1) := by
  have h7 : n ≤ 7 := hw.2.1
  have hcn := hs.2.1
  unfold Tu_nextKeeping
  refine wp_bnd2 (Tu_lift_wp h7 hd hs) (fun r M1 h1 => ?_)
  obtain ⟨f1, e1, l1⟩ := h1
  dsimp only at f1 l1
  rw [show r = nI c from e1]
  have t1 := h.fr f1 (by decide) (by decide) (by decide)
  obtain ⟨-, -, a4, -, u, a8, a9, a10⟩ := id l1
  refine LOOP_up (fun p (_ : Unit) => nI p) n (by omega) (fun p _ => c ≤ p ∧ ∀ q, c ≤ q → q < p → okK S ma fx x y g d q = false) (fun o => wp o _) ?_ ?_ c () hcn ⟨Nat.le_refl _, fun q h1 h2 => by omega⟩
  · rintro p - ag hp ⟨hcp, hJ⟩ ih
    show wp (Tu_nextKeeping_L6 (nI fx) (nI x) (nI y) M1 _ ag (nI p)) _
    unfold Tu_nextKeeping_L6
    rw [t1.2.1, if_neg (by rw [nI_leI (by omega) (by omega)]; omega), a4, jp_due (by omega) (by omega) (by omega) (by omega) (by omega)]
    have hno : okK S ma fx x y g d p = false → wp (ag (nI p + 1)) _ := fun hb => by
      rw [nI_1]
      refine ih () ⟨by omega, fun q h1 h2 => ?_⟩
      by_cases e : q = p
      · subst e; exact hb
      · exact hJ q h1 (by omega)
    by_cases c1 : duB fx d x p y = true
    · rw [if_neg (by rw [cI_0]; exact not_not_intro c1), a9, SP_holds_eq u a8 p (by omega), bind_s, a10 p (by omega)]
      by_cases c2 : us g d p = true
      · rw [if_neg (by rw [cI_0]; exact not_not_intro c2)]
        exact hno (by unfold okK; rw [c2]; simp)
      · rw [if_pos (by rw [cI_0]; exact c2), Tu_keepsAhead_eq hw t1 l1 hp, bind_s]
        by_cases c3 : kaB S ma g d p = true
        · rw [if_neg (by rw [cI_0]; exact not_not_intro c3), Tu_keeps_eq t1.1 (by omega) (by omega) (by omega) (by omega), bind_s]
          by_cases c4 : kpB S d x p y = true
          · rw [if_neg (by rw [cI_0]; exact not_not_intro c4)]
            refine wp_some ⟨f1, l1, Or.inl ⟨p, hcp, hp, rfl, ?_, hJ⟩⟩
            unfold okK
            rw [c1, b_f c2, c3, c4]; rfl
          · rw [if_pos (by rw [cI_0]; exact c4)]
            exact hno (by unfold okK; rw [b_f c4]; simp)
        · rw [if_pos (by rw [cI_0]; exact c3)]
          exact hno (by unfold okK; rw [b_f c3]; simp)
    · rw [if_pos (by rw [cI_0]; exact c1)]
      exact hno (by unfold okK; rw [b_f c1]; simp)
  · rintro - ag ⟨hcp, hJ⟩
    show wp (Tu_nextKeeping_L6 (nI fx) (nI x) (nI y) M1 _ ag (nI n)) _
    unfold Tu_nextKeeping_L6
    rw [t1.2.1, if_pos (by rw [nI_leI (by omega) (by omega)]; omega)]
    exact wp_some ⟨f1, l1, Or.inr ⟨rfl, hJ⟩⟩
