/-! by hand: all partings in the order of their numbers; other ways with partings of the class -/
/-- the last person that can have a higher part (0: none) -/
def nxP (p : Nat → Nat) : Nat → Nat
  | 0 => 0
  | n + 1 => if 0 < n ∧ p n < top p n then n else nxP p n
def nxf (n : Nat) (p : Nat → Nat) : Nat → Nat := fun y => if y < nxP p n then p y else if y = nxP p n then p y + 1 else 0
theorem nxP_s (p : Nat → Nat) (n : Nat) : nxP p (n + 1) = if 0 < n ∧ p n < top p n then n else nxP p n := rfl
theorem nxP_lt (p : Nat → Nat) : ∀ n, 0 < n → nxP p n < n
  | 0, h => absurd h (Nat.not_lt_zero _)
  | n + 1, _ => by
    rw [nxP_s]
    split
    · omega
    · by_cases h : 0 < n
      · have := nxP_lt p n h; omega
      · have : n = 0 := by omega
        subst this
        exact Nat.lt_succ_of_le (Nat.le_refl _)
theorem nxP_ok (p : Nat → Nat) : ∀ n, 0 < nxP p n → p (nxP p n) < top p (nxP p n)
  | 0, h => absurd h (Nat.lt_irrefl _)
  | n + 1, h => by
    rw [nxP_s] at h ⊢
    split
    · rename_i z; exact z.2
    · rename_i z
      rw [if_neg z] at h
      exact nxP_ok p n h
theorem nxP_cg {p p' : Nat → Nat} : ∀ {n : Nat}, (∀ x, x < n → p x = p' x) → nxP p n = nxP p' n
  | 0, _ => rfl
  | n + 1, h => by
    rw [nxP_s, nxP_s, h n (by omega), top_cg (fun y hy => h y (by omega)), nxP_cg (fun y hy => h y (by omega))]
theorem nxf_cg {p p' : Nat → Nat} {n : Nat} (h : ∀ x, x < n → p x = p' x) : ∀ x, x < n → nxf n p x = nxf n p' x := by
  intro x hx
  unfold nxf
  rw [nxP_cg h, h x hx]
theorem nxf_top {n x : Nat} {p : Nat → Nat} (h : x ≤ nxP p n) : top (nxf n p) x = top p x := by
  refine top_cg fun y hy => ?_
  unfold nxf; rw [if_pos (by omega)]
theorem nxf_RGS {n : Nat} {p : Nat → Nat} (h : RGS n p) (h0 : 0 < nxP p n) : RGS n (nxf n p) := by
  intro x hx
  by_cases h1 : x < nxP p n
  · rw [nxf_top (by omega)]
    unfold nxf; rw [if_pos h1]
    exact h x hx
  · by_cases h2 : x = nxP p n
    · rw [nxf_top (by omega)]
      have := nxP_ok p n h0
      unfold nxf; rw [if_neg h1, if_pos h2, h2]
      omega
    · unfold nxf; rw [if_neg h1, if_neg h2]
      exact Nat.zero_le _
theorem isP_3 {k : Nat} (h : isP k) : k = 26 ∨ k = 28 ∨ k = 30 := by
  have key : ∀ k, k < 61 → ob k = .inl (3, [some (k + 1), none, none]) → k = 26 ∨ k = 28 ∨ k = 30 := by decide +kernel
  exact key k (by have := h.1; omega) h.2.1
theorem Pa_topAhead_eq {n x : Nat} {p : Nat → Nat} {M : Mem} (h7 : n ≤ 7) (h : AR M 27 n p) (hr : RGS n p) (hx : x ≤ n) : Pa_topAhead (nI x) M = some (nI (top p x - 1)) := by
  unfold Pa_topAhead
  refine LOOP_fun (fun y => (nI (top p y - 1), nI y)) x (by omega) (fun _ => some (nI (top p x - 1))) ?_ ?_ 0 (Nat.zero_le _)
  · intro y ag hy ih
    have h1 := hr.le y (by omega)
    have h2 := hr.lt (x := y) (by omega)
    show Pa_topAhead_L4 (nI x) M _ ag (nI (top p y - 1)) (nI y) = _
    unfold Pa_topAhead_L4
    simp (disch := omega) only [nI_leI, show ¬ x ≤ y by omega, if_false, Pa_of_nI isP_26 (show y < 7 by omega), bind_s, h y (by omega), nm_e', jmax_nI, i32lit, nI_add]
    rw [← ih, top_s]
    congr 3
    omega
  · intro ag
    show Pa_topAhead_L4 (nI x) M _ ag _ (nI x) = _
    unfold Pa_topAhead_L4
    simp (disch := omega) only [nI_leI, Nat.le_refl, if_true]
theorem top0 : ∀ {n : Nat}, 1 ≤ n → top (fun _ => 0) n = 1
  | 0, h => absurd h (by omega)
  | 1, _ => rfl
  | n + 2, _ => by rw [top_s, top0 (n := n + 1) (by omega)]; rfl
theorem top_pos {p : Nat → Nat} {x : Nat} (h : 0 < x) : 1 ≤ top p x := by
  cases x with
  | zero => omega
  | succ x => rw [top_s]; omega
theorem Pa_forward_wp {n : Nat} {p : Nat → Nat} {M : Mem} (h1 : 1 ≤ n) (h7 : n ≤ 7) (h : PT M 26 n p) (hr : RGS n p) :
    wp (Pa_forward M) (fun r => Fr [26, 27] M r.2 ∧ r.1 = cI (0 < nxP p n) ∧ PT r.2 26 n (if 0 < nxP p n then nxf n p else p)) := by
  obtain ⟨e1, e2, e3⟩ := h
  have ha : aln 27 = 7 := rfl
  unfold Pa_forward
  rw [nm_e', e1]
  obtain ⟨n', rfl⟩ : ∃ n', n = n' + 1 := ⟨n - 1, by omega⟩
  rw [nI_pred]
  refine LOOP_down (fun x (_ : Unit) => nI x) (fun x _ => x ≤ n' ∧ nxP p (n' + 1) = nxP p (x + 1)) (fun o => wp o _) ?_ ?_ n' () (by omega) ⟨Nat.le_refl _, rfl⟩
  · rintro x - ag ⟨hx, hj⟩ ih
    show wp (Pa_forward_L7 M _ ag (nI (x + 1))) _
    unfold Pa_forward_L7
    have hp := top_pos (p := p) (show 0 < x + 1 by omega)
    have ht := hr.le (x + 1) (by omega)
    have hl := hr.lt (x := x + 1) (by omega)
    simp (disch := omega) only [nI_pos_iff, show ¬ x + 1 = 0 by omega, if_false, Pa_of_nI isP_26 (show x + 1 < 7 by omega), bind_s, Pa_topAhead_eq h7 e3 hr (show x + 1 ≤ n' + 1 by omega), e3 (x + 1) (by omega), nI_ltI]
    by_cases hc : p (x + 1) < top p (x + 1)
    · rw [if_neg (by omega)]
      have hnx : nxP p (n' + 1) = x + 1 := by rw [hj, nxP_s, if_pos ⟨by omega, hc⟩]
      rw [SP_addTo_nI (by omega) (by omega), bind_s, nm_e', e3 (x + 1) (by omega), show (1 : Int32) = nI 1 from rfl, nI_add, nI_add]
      refine LOOP_up (fun z (t : Mem) => (nI z, t)) (n' + 1) (by omega) (fun z t => Fr [26, 27] M t ∧ t 26 = M 26 ∧ x + 2 ≤ z ∧ ∀ y, y < n' + 1 → t 27 y = nI (if y < z then nxf (n' + 1) p y else p y)) (fun o => wp o _) ?_ ?_ (x + 2) _ (by omega) ⟨Fr.st (by simp), by rw [st2_n (by omega)], Nat.le_refl _, fun y hy => ?_⟩
      · rintro z t ag' hz ⟨hf, g1, g2, g3⟩ ih'
        show wp (Pa_forward_L37 _ ag' (nI z) t) _
        unfold Pa_forward_L37
        rw [g1, e1]
        simp (disch := omega) only [nI_leI, show ¬ n' + 1 ≤ z by omega, if_false]
        rw [SP_put_nI (by omega) (by omega), bind_s, show (1 : Int32) = nI 1 from rfl, nI_add]
        refine ih' _ ⟨hf.tr (Fr.st (by simp)), by rw [st2_n (by omega)]; exact g1, by omega, fun y hy => ?_⟩
        rw [st2_s]
        by_cases e : y = z
        · subst e
          rw [upd_s, if_pos (by omega)]
          unfold nxf
          rw [if_neg (by omega), if_neg (by omega)]; rfl
        · rw [upd_n e, g3 y hy]
          by_cases e' : y < z
          · rw [if_pos e', if_pos (by omega)]
          · rw [if_neg e', if_neg (by omega)]
      · rintro t ag' ⟨hf, g1, g2, g3⟩
        show wp (Pa_forward_L37 _ ag' (nI (n' + 1)) t) _
        unfold Pa_forward_L37
        rw [g1, e1]
        simp (disch := omega) only [nI_leI, Nat.le_refl, if_true]
        have hR : RGS (n' + 1) (nxf (n' + 1) p) := nxf_RGS hr (by omega)
        have hA : AR t 27 (n' + 1) (nxf (n' + 1) p) := fun y hy => by rw [g3 y hy, if_pos hy]
        have htp := top_pos (p := nxf (n' + 1) p) (show 0 < n' + 1 by omega)
        rw [g1, e1, Pa_topAhead_eq h7 hA hR (Nat.le_refl _), bind_s, nm_e']
        have key : ∀ w, w = nI (top (nxf (n' + 1) p) (n' + 1)) → PT (st2 t 26 2 w) 26 (n' + 1) (nxf (n' + 1) p) := fun w hw =>
          ⟨by rw [st2_s, upd_n (by omega), g1, e1], by rw [st2_s, upd_s, hw], hA.fr (st2_n (by omega))⟩
        refine wp_some ⟨hf.tr (Fr.st (by simp)), (cI_t (by omega)).symm, ?_⟩
        rw [if_pos (by omega)]
        exact key _ (by rw [nI_add, Nat.sub_add_cancel htp])
      · rw [st2_s]
        by_cases e : y = x + 1
        · subst e
          rw [upd_s, if_pos (by omega)]
          unfold nxf
          rw [if_neg (by omega), if_pos hnx.symm]
        · rw [upd_n e, e3 y hy]
          by_cases e' : y < x + 2
          · rw [if_pos e']
            unfold nxf
            rw [if_pos (by omega)]
          · rw [if_neg e']
    · rw [if_pos (by omega)]
      rw [pk_m1]
      refine ih () ⟨by omega, ?_⟩
      rw [hj, nxP_s, if_neg (fun z => hc z.2)]
  · rintro - ag ⟨hx, hj⟩
    show wp (Pa_forward_L7 M _ ag (nI 0)) _
    unfold Pa_forward_L7
    rw [if_pos (by decide)]
    have h0 : nxP p (n' + 1) = 0 := by rw [hj]; rfl
    refine wp_some ⟨Fr.rf, (cI_f (by omega)).symm, ?_⟩
    rw [if_neg (by omega)]
    exact ⟨e1, e2, e3⟩
theorem Pa_allInOne_wp {k n : Nat} {M : Mem} (hk : isP k) (h1 : 1 ≤ n) (h7 : n ≤ 7) : wp (Pa_allInOne k (nI n) M) (fun M' => Fr [k, k + 1] M M' ∧ PT M' k n (fun _ => 0)) := by
  have ha := alnP hk
  unfold Pa_allInOne
  rw [nm_e', nm_e']
  refine wp_bind (SP_wipe_eq (by omega)) (fun M3 hM3 => ?_)
  obtain ⟨f3, a3⟩ := hM3
  have e := f3 k (by simp)
  refine wp_some ⟨((Fr.st (by simp)).tr (Fr.st (by simp))).tr (f3.mo (by simp)), ?_, ?_, fun j hj => ?_⟩
  · rw [e, st2_s, upd_n (by omega), st2_s, upd_s]
  · rw [e, st2_s, upd_s, top0 h1]; rfl
  · rw [a3, if_pos (by omega)]; rfl
theorem Pa_copy_wp {k k1 n : Nat} {p : Nat → Nat} {M : Mem} (hk : isP k) (hk1 : isP k1) (hne : k ≠ k1) (h7 : n ≤ 7) (h : PT M k1 n p) : wp (Pa_copy k k1 M) (fun M' => Fr [k, k + 1] M M' ∧ PT M' k n p) := by
  obtain ⟨e1, e2, e3⟩ := h
  have ha := alnP hk
  have hd : k1 ≠ k ∧ k1 + 1 ≠ k ∧ k1 ≠ k + 1 ∧ k1 + 1 ≠ k + 1 := by
    rcases isP_3 hk with rfl | rfl | rfl <;> rcases isP_3 hk1 with rfl | rfl | rfl <;> simp at hne ⊢
  unfold Pa_copy
  rw [nm_e', nm_e']
  refine LOOP_up (fun x (t : Mem) => (nI x, t)) n (by omega) (fun x t => Fr [k, k + 1] M t ∧ t k 1 = nI n ∧ t k 2 = nI (top p n) ∧ AR t (k + 1) x p) (fun o => wp o _) ?_ ?_ 0 _ (by omega) ⟨(Fr.st (by simp)).tr (Fr.st (by simp)), ?_, ?_, fun j hj => by omega⟩
  · rintro x t ag hx ⟨hf, a1, a2, a3⟩ ih
    show wp (Pa_copy_L18 k k1 _ ag (nI x) t) _
    unfold Pa_copy_L18
    have b := hf (k1 + 1) (by simp [hd])
    simp (disch := omega) only [a1, nI_leI, show ¬ n ≤ x by omega, if_false, Pa_of_nI hk1 (show x < 7 by omega), bind_s]
    rw [SP_put_nI (by omega) (by omega), bind_s, show (1 : Int32) = nI 1 from rfl, nI_add]
    refine ih _ ⟨hf.tr (Fr.st (by simp)), by rw [st2_n (by omega)]; exact a1, by rw [st2_n (by omega)]; exact a2, fun j hj => ?_⟩
    rw [st2_s]
    by_cases e : j = x
    · subst e; rw [upd_s, b, e3 _ hx]
    · rw [upd_n e]; exact a3 j (by omega)
  · rintro t ag ⟨hf, a1, a2, a3⟩
    show wp (Pa_copy_L18 k k1 _ ag (nI n) t) _
    unfold Pa_copy_L18
    simp (disch := omega) only [a1, nI_leI, Nat.le_refl, if_true]
    exact wp_some ⟨hf, a1, a2, a3⟩
  · rw [st2_s, upd_n (by omega), st2_s, upd_s, e1]
  · rw [st2_s, upd_s, st2_n hd.1, e2]
theorem Pa_sizeOf_eq {n q : Nat} {p : Nat → Nat} {M : Mem} (h7 : n ≤ 7) (h1 : M 26 1 = nI n) (h : AR M 27 n p) (hp : ∀ x, x < n → p x < 100) (hq : q < 100) : Pa_sizeOf (nI q) M = some (nI (sm n (fun x => if p x = q then 1 else 0))) := by
  unfold Pa_sizeOf
  refine LOOP_fun (fun x => (nI (sm x (fun x => if p x = q then 1 else 0)), nI x)) n (by omega) (fun _ => some (nI (sm n (fun x => if p x = q then 1 else 0)))) ?_ ?_ 0 (Nat.zero_le _)
  · intro x ag hx ih
    have hpx := hp x hx
    show Pa_sizeOf_L4 (nI q) M _ ag _ (nI x) = _
    unfold Pa_sizeOf_L4
    simp (disch := omega) only [h1, nI_leI, show ¬ n ≤ x by omega, if_false, Pa_of_nI isP_26 (show x < 7 by omega), bind_s, h x hx, nI_eq, i32lit, nI_add]
    rw [← ih]
    simp only [sm]
    split <;> rfl
  · intro ag
    show Pa_sizeOf_L4 (nI q) M _ ag _ (nI n) = _
    unfold Pa_sizeOf_L4
    simp (disch := omega) only [h1, nI_leI, Nat.le_refl, if_true]
theorem Pa_rename_wp {n a b : Nat} {q : Nat → Nat} {M : Mem} (h7 : n ≤ 7) (h1 : M 26 1 = nI n) (h : AR M 27 n q) (hq : ∀ x, x < n → q x < 100) (ha : a < 100) : wp (Pa_rename (nI a) (nI b) M) (fun M' => Fr [27] M M' ∧ AR M' 27 n (fun x => if q x = a then b else q x)) := by
  have hal : aln 27 = 7 := rfl
  unfold Pa_rename
  refine LOOP_up (fun x (t : Mem) => (nI x, t)) n (by omega) (fun x t => Fr [27] M t ∧ ∀ y, y < n → t 27 y = nI (if y < x ∧ q y = a then b else q y)) (fun o => wp o _) ?_ ?_ 0 M (by omega) ⟨Fr.rf, fun y hy => by rw [if_neg (by omega)]; exact h y hy⟩
  · rintro x t ag hx ⟨hf, g⟩ ih
    have hqx := hq x hx
    show wp (Pa_rename_L2 _ _ _ ag (nI x) t) _
    unfold Pa_rename_L2
    rw [hf 26 (by decide), h1]
    simp (disch := omega) only [nI_leI, show ¬ n ≤ x by omega, if_false, Pa_of_nI isP_26 (show x < 7 by omega), bind_s, g x hx, show ¬ x < x by omega, false_and, nI_eq, i32lit, nI_add]
    refine wp_ite (fun hc => ?_) (fun hc => ?_)
    · rw [SP_put_nI (by omega) (by omega), bind_s]
      refine ih _ ⟨hf.tr (Fr.st (by simp)), fun y hy => ?_⟩
      rw [st2_s]
      by_cases e : y = x
      · subst e; rw [upd_s, if_pos ⟨by omega, hc⟩]
      · rw [upd_n e, g y hy]
        congr 2
        apply propext
        omega
    · refine ih _ ⟨hf, fun y hy => ?_⟩
      rw [g y hy]
      by_cases e : y = x
      · subst e; rw [if_neg (by omega), if_neg (by omega)]
      · congr 2
        apply propext
        omega
  · rintro t ag ⟨hf, g⟩
    show wp (Pa_rename_L2 _ _ _ ag (nI n) t) _
    unfold Pa_rename_L2
    rw [hf 26 (by decide), h1]
    simp (disch := omega) only [nI_leI, Nat.le_refl, if_true]
    refine wp_some ⟨hf, fun y hy => ?_⟩
    rw [g y hy]
    congr 2
    apply propext
    omega
/-- q tells the finest parting that is coarser than p and p2 -/
def CO (n : Nat) (p q : Nat → Nat) : Prop := ∀ x y, x < n → y < n → p x = p y → q x = q y
def JN (n : Nat) (p p2 q : Nat → Nat) : Prop := CO n p q ∧ CO n p2 q ∧ ∀ g : Nat → Nat, CO n p g → CO n p2 g → CO n q g
set_option maxHeartbeats 1000000 in
theorem Pa_mergeBy_wp {n : Nat} {p p2 : Nat → Nat} {M : Mem} (h7 : n ≤ 7) (h1 : M 26 1 = nI n) (h : AR M 27 n p) (h2 : AR M 29 n p2) (hp : ∀ x, x < n → p x < 100) (hp2 : ∀ x, x < n → p2 x < 100) :
    wp (Pa_mergeBy M) (fun M' => Fr [27] M M' ∧ ∃ q, AR M' 27 n q ∧ (∀ x, x < n → q x < 100) ∧ JN n p p2 q) := by
  unfold Pa_mergeBy
  refine LOOP_up (fun x (t : Mem) => (nI x, t)) n (by omega) (fun x t => Fr [27] M t ∧ ∃ q, AR t 27 n q ∧ (∀ x, x < n → q x < 100) ∧ CO n p q ∧ (∀ g : Nat → Nat, CO n p g → CO n p2 g → CO n q g) ∧ ∀ u v, u < x → u < v → v < n → p2 u = p2 v → q u = q v) (fun o => wp o _) ?_ ?_ 0 M (by omega) ⟨Fr.rf, p, h, hp, fun _ _ _ _ e => e, fun g hg _ => hg, fun u v hu => by omega⟩
  · rintro x t ag hx ⟨hf, q0, a0, b0, c0, d0, e0⟩ ih
    show wp (Pa_mergeBy_L2 _ ag (nI x) t) _
    unfold Pa_mergeBy_L2
    rw [hf 26 (by decide), h1]
    simp (disch := omega) only [nI_leI, show ¬ n ≤ x by omega, if_false, nm_e', i32lit, nI_add]
    refine LOOP_up (fun y (t : Mem) => (nI y, t)) n (by omega) (fun y t => Fr [27] M t ∧ ∃ q, AR t 27 n q ∧ (∀ x, x < n → q x < 100) ∧ CO n p q ∧ (∀ g : Nat → Nat, CO n p g → CO n p2 g → CO n q g) ∧ ∀ u v, u < v → v < n → (u < x ∨ (u = x ∧ v < y)) → p2 u = p2 v → q u = q v) (fun o => wp o _) ?_ ?_ (x + 1) t (by omega) ⟨hf, q0, a0, b0, c0, d0, fun u v huv hv hu => e0 u v (by omega) huv hv⟩
    · rintro y t ag' hy ⟨hf, q, a, b, c, d, e⟩ ih'
      show wp (Pa_mergeBy_L14 (nI x) _ ag' (nI y) t) _
      unfold Pa_mergeBy_L14
      rw [hf 26 (by decide), h1]
      have a2 : AR t 29 n p2 := h2.fr (hf 29 (by decide))
      simp (disch := omega) only [nI_leI, show ¬ n ≤ y by omega, if_false]
      rw [Pa_together_eq isP_28 a2 hp2 h7 hx hy, bind_s]
      simp only [cI_0]
      rw [Pa_of_nI isP_26 (by omega), Pa_of_nI isP_26 (by omega), bind_s, bind_s, a x hx, a y hy]
      have hbx := b x hx
      have hby := b y hy
      refine wp_ite (fun hc => ?_) (fun hc => ?_)
      · rw [show (1 : Int32) = nI 1 from rfl, nI_add]
        refine ih' t ⟨hf, q, a, b, c, d, fun u v huv hv hu e' => ?_⟩
        by_cases z : u = x ∧ v = y
        · obtain ⟨rfl, rfl⟩ := z; exact absurd e' hc
        · exact e u v huv hv (by omega) e'
      · simp only [Decidable.not_not] at hc
        refine wp_bind (Pa_rename_wp (b := q x) h7 ((congrFun (hf 26 (by decide)) 1).trans h1) a b hby) (fun M3 hM3 => ?_)
        obtain ⟨f3, a3⟩ := hM3
        rw [show (1 : Int32) = nI 1 from rfl, nI_add]
        refine ih' M3 ⟨hf.tr f3, _, a3, fun z hz => ?_, fun u v hu hv e' => ?_, fun g hg hg2 u v hu hv e' => ?_, fun u v huv hv hu e' => ?_⟩
        · show (if q z = q y then q x else q z) < 100
          have := b z hz
          split <;> omega
        · show (if q u = q y then q x else q u) = if q v = q y then q x else q v
          rw [c u v hu hv e']
        · have hgd := d g hg hg2
          have hxy : g x = g y := hg2 x y hx hy hc
          have e2 : (if q u = q y then q x else q u) = if q v = q y then q x else q v := e'
          by_cases z1 : q u = q y <;> by_cases z2 : q v = q y
          · exact hgd u v hu hv (z1.trans z2.symm)
          · rw [if_pos z1, if_neg z2] at e2
            rw [hgd u y hu hy z1, ← hxy]
            exact hgd x v hx hv e2
          · rw [if_neg z1, if_pos z2] at e2
            rw [hgd v y hv hy z2, ← hxy]
            exact hgd u x hu hx e2
          · rw [if_neg z1, if_neg z2] at e2
            exact hgd u v hu hv e2
        · show (if q u = q y then q x else q u) = if q v = q y then q x else q v
          by_cases z : u = x ∧ v = y
          · obtain ⟨rfl, rfl⟩ := z
            rw [if_pos (rfl : q v = q v)]
            split <;> rfl
          · rw [e u v huv hv (by omega) e']
    · rintro t ag' ⟨hf, q, a, b, c, d, e⟩
      show wp (Pa_mergeBy_L14 (nI x) _ ag' (nI n) t) _
      unfold Pa_mergeBy_L14
      rw [hf 26 (by decide), h1]
      simp (disch := omega) only [nI_leI, Nat.le_refl, if_true]
      exact ih t ⟨hf, q, a, b, c, d, fun u v hu huv hv e' => e u v huv hv (by omega) e'⟩
  · rintro t ag ⟨hf, q, a, b, c, d, e⟩
    show wp (Pa_mergeBy_L2 _ ag (nI n) t) _
    unfold Pa_mergeBy_L2
    rw [hf 26 (by decide), h1]
    simp (disch := omega) only [nI_leI, Nat.le_refl, if_true]
    refine wp_some ⟨hf, q, a, b, c, fun x y hx hy e' => ?_, d⟩
    rcases Nat.lt_trichotomy x y with z | z | z
    · exact e x y hx z hy e'
    · rw [z]
    · exact (e y x hy z hx e'.symm).symm
