/-! by hand: the least row: what its first order must look like -/
def tau (x y p : Nat) : Nat := if p = x then y else if p = y then x else p
theorem tau_x {x y : Nat} : tau x y x = y := if_pos rfl
theorem tau_y {x y : Nat} : tau x y y = x := by
  unfold tau
  by_cases c : y = x
  · rw [if_pos c, c]
  · rw [if_neg c, if_pos rfl]
theorem tau_n {x y p : Nat} (h : p ≠ x) (h' : p ≠ y) : tau x y p = p := by unfold tau; rw [if_neg h, if_neg h']
theorem tau_tau (x y p : Nat) : tau x y (tau x y p) = p := by
  by_cases c : p = x
  · rw [c, tau_x, tau_y]
  · by_cases c2 : p = y
    · rw [c2, tau_y, tau_x]
    · rw [tau_n c c2, tau_n c c2]
theorem tau_lt {x y p n : Nat} (hx : x < n) (hy : y < n) (hp : p < n) : tau x y p < n := by
  unfold tau
  split
  · exact hy
  · split
    · exact hx
    · exact hp
theorem tau_pm {x y n : Nat} (hx : x < n) (hy : y < n) : Pm n (tau x y) := ⟨fun _ hp => tau_lt hx hy hp, fun a b _ _ e => by rw [← tau_tau x y a, e, tau_tau]⟩
def twB (S ma : Nat → Nat) (n x y : Nat) : Bool := ma x == ma y && swB S n true x y
theorem tw_tau {S ma : Nat → Nat} {n x y : Nat} (h0 : ∀ k u, k < 3 → u < n → sg S k u u = 0) (hx : x < n) (hy : y < n) (h : twB S ma n x y = true) : (∀ p, p < n → ma (tau x y p) = ma p) ∧ ∀ k p q, k < 3 → p < n → q < n → sg S k (tau x y p) (tau x y q) = sg S k p q := by
  unfold twB at h
  rw [Bool.and_eq_true, beq_iff_eq] at h
  obtain ⟨hm, hs⟩ := h
  have hs2 : ∀ k, k < 3 → sg S k x y = sg S k y x ∧ ∀ z, z < n → z ≠ x → z ≠ y → sg S k x z = sg S k y z ∧ sg S k z x = sg S k z y := fun k hk => by
    unfold swB at hs
    have h1 := al_iff.mp hs k hk
    unfold swR at h1
    rw [Bool.and_eq_true] at h1
    refine ⟨beq_iff_eq.mp h1.1, fun z hz z1 z2 => ?_⟩
    have h2 := al_iff.mp h1.2 z hz
    unfold swC at h2
    rw [beq_eq_false_iff_ne.mpr z1, beq_eq_false_iff_ne.mpr z2, Bool.false_or, Bool.false_or, Bool.and_eq_true] at h2
    exact ⟨beq_iff_eq.mp h2.1, beq_iff_eq.mp h2.2⟩
  refine ⟨fun p hp => ?_, fun k p q hk hp hq => ?_⟩
  · by_cases c : p = x
    · rw [c, tau_x]; exact hm.symm
    · by_cases c2 : p = y
      · rw [c2, tau_y]; exact hm
      · rw [tau_n c c2]
  · obtain ⟨e1, e2⟩ := hs2 k hk
    by_cases c : p = x <;> by_cases c2 : p = y <;> by_cases c3 : q = x <;> by_cases c4 : q = y
    all_goals first
      | (subst c; subst c2; subst c3; rw [tau_x])
      | (subst c; subst c2; rw [tau_x, tau_n c3 c4])
      | (subst c; subst c3; subst c4; rw [tau_x])
      | (subst c; subst c3; rw [tau_x, h0 k _ hk hx, h0 k _ hk hy])
      | (subst c; subst c4; rw [tau_x, tau_y]; exact e1.symm)
      | (subst c; rw [tau_x, tau_n c3 c4]; exact ((e2 q hq c3 c4).1).symm)
      | (subst c2; subst c3; subst c4; rw [tau_x])
      | (subst c2; subst c3; rw [tau_x, tau_y]; exact e1)
      | (subst c2; subst c4; rw [tau_y, h0 k _ hk hx, h0 k _ hk hy])
      | (subst c2; rw [tau_y, tau_n c3 c4]; exact (e2 q hq c3 c4).1)
      | (subst c3; subst c4; rw [tau_x, tau_n c c2])
      | (subst c3; rw [tau_x, tau_n c c2]; exact ((e2 p hp c c2).2).symm)
      | (subst c4; rw [tau_y, tau_n c c2]; exact (e2 p hp c c2).2)
      | (rw [tau_n c c2, tau_n c3 c4])
def BST (S ma : Nat → Nat) (n : Nat) (f : Nat → Nat) : Prop := Pm n f ∧ ∀ g, Pm n g → rwN S ma n f ≤ rwN S ma n g ∧ (rwN S ma n f = rwN S ma n g → num f n ≤ num g n)
/-- each of the first d has a least mark of those that are left -/
def LMk (ma : Nat → Nat) (n d : Nat) (g : Nat → Nat) : Prop := ∀ e, e < d → ∀ o, o < n → us g e o = false → ma (g e) ≤ ma o
theorem us_f {n d e : Nat} {f : Nat → Nat} (h : IJ n n f) (hd : d ≤ e) (he : e < n) : us f d (f e) = false := b_f (fun z => by
  obtain ⟨u, hu, q⟩ := us_iff.mp z
  have := h.2 u e (by omega) he q
  omega)
theorem us_not {d o e : Nat} {f : Nat → Nat} (h : us f d o = false) (he : e < d) : f e ≠ o := fun z => by
  rw [us_iff.mpr ⟨e, he, z⟩] at h; cases h
theorem BST_mark {S ma f : Nat → Nat} {n : Nat} (hw : TWF n ma S) (h9 : S9 S) (h : BST S ma n f) : LMk ma n n f := fun e he o ho hu => by
  rcases Nat.lt_or_ge (ma o) (ma (f e)) with c | c
  · exfalso
    have hp := h.1
    have hfe := hp.1 e he
    have hq := (tau_pm (n := n) hfe ho).cmp hp
    have h1 := (h.2 _ hq).1
    have h2 : rwN S ma n (fun x => tau (f e) o (f x)) < rwN S ma n f := by
      refine num_lex (i := e) (rw_lt hw h9 hq.1) (by omega) (fun j hj => ?_) ?_
      · rw [rw_m (by omega), rw_m (by omega)]
        show ma (tau (f e) o (f j)) = _
        rw [tau_n (fun z => by have := hp.2 j e (by omega) he z; omega) (us_not hu hj)]
      · rw [rw_m he, rw_m he]
        show ma (tau (f e) o (f e)) < _
        rw [tau_x]; exact c
    omega
  · exact c
theorem BST_twin {S ma f : Nat → Nat} {n d y : Nat} (hw : TWF n ma S) (h : BST S ma n f) (hd : d < n) (hy : y < f d) (ht : twB S ma n (f d) y = true) : us f d y = true := by
  have h7 := hw.2.1
  have hp := h.1
  have hfd := hp.1 d hd
  rcases hu : us f d y with _ | _
  · exfalso
    obtain ⟨t1, t2⟩ := tw_tau (fun k u hk hu => hw.d k u u hk (by omega) (by omega) rfl) hfd (by omega) ht
    have hq := (tau_pm (n := n) hfd (show y < n by omega)).cmp hp
    have e : rwN S ma n f = rwN S ma n (fun x => tau (f d) y (f x)) := by
      refine num_cg (fun i hi => ?_)
      by_cases c : i < n
      · rw [rw_m c, rw_m c]
        exact (t1 _ (hp.1 i c)).symm
      · obtain ⟨a1, a2, a3, a4⟩ := ix_u hw.1 h7 (by omega) hi
        unfold rwF
        rw [if_neg c, if_neg c]
        exact (t2 _ _ _ a1 (hp.1 _ a2) (hp.1 _ a3)).symm
    have h1 := (h.2 _ hq).2 e
    have h2 : num (fun x => tau (f d) y (f x)) n < num f n := by
      refine num_lex (i := d) (fun j hj => by have q : tau (f d) y (f j) < n := hq.1 j hj; show tau (f d) y (f j) < 10; omega) hd (fun j hj => ?_) ?_
      · show tau (f d) y (f j) = f j
        exact tau_n (fun z => by have := hp.2 j d (by omega) hd z; omega) (us_not hu hj)
      · show tau (f d) y (f d) < f d
        rw [tau_x]; exact hy
    omega
  · rfl
theorem marks_eq {S ma f g : Nat → Nat} {n : Nat} (hw : TWF n ma S) (h9 : S9 S) (h : BST S ma n f) (hg : Pm n g) (hl : LMk ma n n g) : ∀ i, i < n → ma (g i) = ma (f i) := by
  have hlf := BST_mark hw h9 h
  have hp := h.1
  have key : ∀ i, i ≤ n → ∀ j, j < i → ma (g j) = ma (f j) := by
    intro i
    induction i with
    | zero => intro _ j hj; omega
    | succ i ih =>
      intro hi j hj
      have ih := ih (by omega)
      by_cases c : j = i
      · subst c
        have h1 := num_le (r := rwF S ma n f) (r' := rwF S ma n g) (N := n + 3 * n * n) (i := j) (rw_lt hw h9 hg.1) (h.2 g hg).1 (by omega) (fun u hu => by rw [rw_m (by omega), rw_m (by omega)]; exact (ih u hu).symm)
        rw [rw_m (by omega), rw_m (by omega)] at h1
        rcases Nat.lt_or_ge (ma (f j)) (ma (g j)) with c2 | c2
        · exfalso
          have k1 := us_cnt (j + 1) ((hp.inj).le (show j + 1 ≤ n by omega))
          have k2 := us_cnt j ((hg.inj).le (show j ≤ n by omega))
          have k3 := sm_mono (n := n) (f := fun p => if us f (j + 1) p = true then 1 else 0) (g := fun p => if us g j p = true then 1 else 0) (fun p hpn => by
            by_cases c3 : us f (j + 1) p = true
            · rw [if_pos c3]
              obtain ⟨u, hu, e⟩ := us_iff.mp c3
              have e1 := hlf u (by omega) (f j) (hp.1 j (by omega)) (us_f hp.inj (by omega) (by omega))
              rw [if_pos]
              · exact Nat.le_refl _
              · rcases c4 : us g j p with _ | _
                · have := hl j (by omega) p hpn c4
                  rw [e] at e1; omega
                · rfl
            · rw [if_neg c3]; exact Nat.zero_le _)
          rw [k1, k2] at k3
          omega
        · omega
      · exact ih j (by omega)
  exact key n (Nat.le_refl _)
theorem ix_lt {n k x z k' z' : Nat} (h7 : n ≤ 7) (hx : x < n) (hz : z < n) (hz' : z' < n) (h : n + (k * n + x) * n + z < n + (k' * n + 0) * n + z') : k < k' ∨ (k = k' ∧ x = 0 ∧ z < z') := by
  rcases n17 (by omega) h7 with rfl | rfl | rfl | rfl | rfl | rfl | rfl <;> omega
/-- rows are alike as far as marks and the kinds of which there are no ties -/
theorem pre_eq {S ma f b : Nat → Nat} {n lead j : Nat} (hw : TWF n ma S) (hf : ∀ x, x < n → f x < n) (hb : ∀ x, x < n → b x < n) (hm : ∀ i, i < n → ma (b i) = ma (f i)) (hl3 : lead < 3) (hl : ∀ k x z, k < lead → x < n → z < n → sg S k x z = 0) (hj : j < n + (lead * n + 0) * n) : rwF S ma n f j = rwF S ma n b j := by
  have h7 := hw.2.1
  have h1 := hw.1
  by_cases c : j < n
  · rw [rw_m c, rw_m c]; exact (hm j c).symm
  · have hN : n + (lead * n + 0) * n ≤ n + 3 * n * n := by rcases n17 h1 h7 with rfl | rfl | rfl | rfl | rfl | rfl | rfl <;> omega
    obtain ⟨a1, a2, a3, a4⟩ := ix_u h1 h7 (by omega) (show j < n + 3 * n * n by omega)
    have hk := ix_lt (k' := lead) (z' := 0) h7 a2 a3 (by omega) (by rw [← a4]; exact hj)
    have hk2 : (j - n) / (n * n) < lead := by omega
    unfold rwF
    rw [if_neg c, if_neg c, hl _ _ _ hk2 (hf _ a2) (hf _ a3), hl _ _ _ hk2 (hb _ a2) (hb _ a3)]
theorem no_behind {S ma f b : Nat → Nat} {n lead z : Nat} (hw : TWF n ma S) (h9 : S9 S) (h : BST S ma n f) (hb : Pm n b) (hm : ∀ i, i < n → ma (b i) = ma (f i)) (hl3 : lead < 3) (hl : ∀ k x z, k < lead → x < n → z < n → sg S k x z = 0) (hz1 : 1 ≤ z) (hz : z < n) (he : ∀ e, 1 ≤ e → e < z → sg S lead (f 0) (f e) = sg S lead (b 0) (b e)) (hlt : sg S lead (b 0) (b z) < sg S lead (f 0) (f z)) : False := by
  have h7 := hw.2.1
  have h1 := hw.1
  have hp := h.1
  have h2 : rwN S ma n b < rwN S ma n f := by
    refine num_lex (i := n + (lead * n + 0) * n + z) (rw_lt hw h9 hb.1) (ix_b h7 hl3 h1 hz).1 (fun j hj => ?_) ?_
    · rcases Nat.lt_or_ge j (n + (lead * n + 0) * n) with c | c
      · exact (pre_eq hw hp.1 hb.1 hm hl3 hl c).symm
      · obtain ⟨z', rfl⟩ : ∃ z', j = n + (lead * n + 0) * n + z' := ⟨j - (n + (lead * n + 0) * n), by omega⟩
        rw [rw_k h7 h1 (by omega), rw_k h7 h1 (by omega)]
        by_cases c0 : z' = 0
        · rw [c0, hw.d lead (b 0) (b 0) hl3 (by have := hb.1 0 h1; omega) (by have := hb.1 0 h1; omega) rfl, hw.d lead (f 0) (f 0) hl3 (by have := hp.1 0 h1; omega) (by have := hp.1 0 h1; omega) rfl]
        · exact (he z' (by omega) (by omega)).symm
    · rw [rw_k h7 h1 hz, rw_k h7 h1 hz]; exact hlt
  have := (h.2 b hb).1
  omega
