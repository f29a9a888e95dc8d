/-! by hand: all orders: the list holds each one once; the reference's steps -/
def Pm (n : Nat) (f : Nat → Nat) : Prop := (∀ x, x < n → f x < n) ∧ ∀ x y, x < n → y < n → f x = f y → x = y
theorem chkP_all {n : Nat} (h1 : 1 ≤ n) (h7 : n ≤ 7) : chkP n = true := by
  have : n = 1 ∨ n = 2 ∨ n = 3 ∨ n = 4 ∨ n = 5 ∨ n = 6 ∨ n = 7 := by omega
  rcases this with rfl | rfl | rfl | rfl | rfl | rfl | rfl
  · exact chkP_1
  · exact chkP_2
  · exact chkP_3
  · exact chkP_4
  · exact chkP_5
  · exact chkP_6
  · exact chkP_7
theorem PL_cons {n : Nat} (h1 : 1 ≤ n) (h7 : n ≤ 7) : ∃ l, PL n = num (fun x => x) n :: l ∧ chkF n (num (fun x => x) n) l = true := by
  have h := chkP_all h1 h7
  unfold chkP at h
  rcases hP : PL n with _ | ⟨m, l⟩
  · rw [hP] at h; cases h
  · rw [hP] at h
    have h' : (m == num (fun x => x) n && chkF n m l) = true := h
    rw [Bool.and_eq_true, beq_iff_eq] at h'
    obtain ⟨rfl, h2⟩ := h'
    exact ⟨l, rfl, h2⟩
theorem pl_s (n k acc : Nat) (us : Nat → Bool) : pl n (k + 1) acc us = (List.range n).flatMap (fun x => if us x then [] else pl n k (acc * 10 + x) (fun y => y == x || us y)) := rfl
theorem pl_mem {n : Nat} {f : Nat → Nat} (hf : Pm n f) : ∀ k d us, d + k = n → (∀ y, us y = true ↔ ∃ e, e < d ∧ f e = y) → num f n ∈ pl n k (num f d) us := by
  intro k
  induction k with
  | zero =>
    intro d us hd _
    have : d = n := by omega
    subst this
    exact List.mem_singleton.mpr rfl
  | succ k ih =>
    intro d us hd hu
    rw [pl_s, List.mem_flatMap]
    refine ⟨f d, List.mem_range.mpr (hf.1 d (by omega)), ?_⟩
    rw [if_neg (fun z => ?_)]
    · refine ih (d + 1) _ (by omega) (fun y => ?_)
      rw [Bool.or_eq_true, beq_iff_eq, hu]
      constructor
      · rintro (z | ⟨e, he, z⟩)
        · exact ⟨d, by omega, z.symm⟩
        · exact ⟨e, by omega, z⟩
      · rintro ⟨e, he, z⟩
        by_cases c : e = d
        · subst c; exact Or.inl z.symm
        · exact Or.inr ⟨e, by omega, z⟩
    · obtain ⟨e, he, z⟩ := (hu _).mp z
      have := hf.2 e d (by omega) (by omega) z
      omega
theorem PL_mem {n : Nat} {f : Nat → Nat} (hf : Pm n f) : num f n ∈ PL n := pl_mem hf n 0 _ (by omega) (fun y => ⟨fun z => (by cases z), fun ⟨e, he, _⟩ => (by omega)⟩)
theorem pl_inv {n m : Nat} : ∀ k d us (g : Nat → Nat), d + k = n → (∀ e, e < d → g e < n) → (∀ e e', e < d → e' < d → g e = g e' → e = e') → (∀ y, us y = true ↔ ∃ e, e < d ∧ g e = y) → m ∈ pl n k (num g d) us → ∃ f, (∀ e, e < d → f e = g e) ∧ Pm n f ∧ m = num f n := by
  intro k
  induction k with
  | zero =>
    intro d us g hd h1 h2 _ hm
    have : d = n := by omega
    subst this
    have e := List.mem_singleton.mp hm
    exact ⟨g, fun _ _ => rfl, ⟨h1, h2⟩, e⟩
  | succ k ih =>
    intro d us g hd h1 h2 hu hm
    rw [pl_s, List.mem_flatMap] at hm
    obtain ⟨x, hx, hm⟩ := hm
    rw [List.mem_range] at hx
    by_cases c : us x = true
    · rw [if_pos c] at hm; cases hm
    · rw [if_neg c] at hm
      obtain ⟨g', hg'⟩ : ∃ g', g' = fun e => if e = d then x else g e := ⟨_, rfl⟩
      have gd : g' d = x := by rw [hg']; exact if_pos rfl
      have ge : ∀ e, e < d → g' e = g e := fun e he => by rw [hg']; exact if_neg (by omega)
      have en : num g d * 10 + x = num g' (d + 1) := by
        rw [num_s, gd, num_cg (p := g) (p' := g') (fun e he => (ge e he).symm)]
      rw [en] at hm
      have hnew : ∀ e, e < d → g e ≠ x := fun e he z => c ((hu x).mpr ⟨e, he, z⟩)
      obtain ⟨f, a1, a2, a3⟩ := ih (d + 1) _ g' (by omega) (fun e he => by
        by_cases q : e = d
        · rw [q, gd]; exact hx
        · rw [ge e (by omega)]; exact h1 e (by omega)) (fun e e' he he' z => by
        by_cases q : e = d <;> by_cases q' : e' = d
        · omega
        · rw [q, gd, ge e' (by omega)] at z; exact absurd z.symm (hnew e' (by omega))
        · rw [q', gd, ge e (by omega)] at z; exact absurd z (hnew e (by omega))
        · rw [ge e (by omega), ge e' (by omega)] at z; exact h2 e e' (by omega) (by omega) z) (fun y => by
        rw [Bool.or_eq_true, beq_iff_eq, hu]
        constructor
        · rintro (z | ⟨e, he, z⟩)
          · exact ⟨d, by omega, by rw [gd]; exact z.symm⟩
          · exact ⟨e, by omega, by rw [ge e he]; exact z⟩
        · rintro ⟨e, he, z⟩
          by_cases q : e = d
          · rw [q, gd] at z; exact Or.inl z.symm
          · rw [ge e (by omega)] at z; exact Or.inr ⟨e, by omega, z⟩) hm
      exact ⟨f, fun e he => by rw [a1 e (by omega), ge e he], a2, a3⟩
theorem Pm.cg {n : Nat} {f g : Nat → Nat} (h : Pm n f) (e : ∀ x, x < n → f x = g x) : Pm n g := ⟨fun x hx => by rw [← e x hx]; exact h.1 x hx, fun x y hx hy z => h.2 x y hx hy (by rw [e x hx, e y hy]; exact z)⟩
theorem Pm.dgn {n : Nat} {f : Nat → Nat} (h : Pm n f) (h7 : n ≤ 7) : ∀ x, x < n → dg n (num f n) x = f x := dg_num (fun x hx => by have := h.1 x hx; omega)
theorem PL_inv {n m : Nat} (h7 : n ≤ 7) (hm : m ∈ PL n) : Pm n (dg n m) ∧ num (dg n m) n = m := by
  obtain ⟨f, -, hf, rfl⟩ := pl_inv n 0 _ (fun x => x) (by omega) (fun e he => by omega) (fun e e' he => by omega) (fun y => ⟨fun z => (by cases z), fun ⟨e, he, _⟩ => (by omega)⟩) hm
  have e := hf.dgn h7
  exact ⟨hf.cg (fun x hx => (e x hx).symm), num_cg e⟩
theorem chk_lt {n : Nat} : ∀ {l : List Nat} {m : Nat}, chkF n m l = true → ∀ b, b ∈ l → m < b
  | [], m, _, b, hb => by cases hb
  | m' :: l, m, h, b, hb => by
    have h' : (!(pv (dg n m) (n - 1) == 0) && num (nxp n (dg n m)) n == m' && decide (m < m') && chkF n m' l) = true := h
    simp only [Bool.and_eq_true, decide_eq_true_iff] at h'
    rcases List.mem_cons.mp hb with rfl | hb
    · exact h'.1.2
    · have := chk_lt h'.2 b hb
      omega
theorem chk_nd {n : Nat} : ∀ {l : List Nat} {m : Nat}, chkF n m l = true → (m :: l).Nodup
  | [], m, _ => List.nodup_cons.mpr ⟨fun z => (by cases z), List.nodup_nil⟩
  | m' :: l, m, h => by
    have h' : (!(pv (dg n m) (n - 1) == 0) && num (nxp n (dg n m)) n == m' && decide (m < m') && chkF n m' l) = true := h
    simp only [Bool.and_eq_true, decide_eq_true_iff] at h'
    exact List.nodup_cons.mpr ⟨fun z => Nat.lt_irrefl _ (chk_lt h m z), chk_nd h'.2⟩
theorem PL_nd {n : Nat} (h1 : 1 ≤ n) (h7 : n ≤ 7) : (PL n).Nodup := by
  obtain ⟨l, e, h⟩ := PL_cons h1 h7
  rw [e]; exact chk_nd h
theorem chk_s {n m m' : Nat} {l : List Nat} (h : chkF n m (m' :: l) = true) : pv (dg n m) (n - 1) ≠ 0 ∧ num (nxp n (dg n m)) n = m' ∧ chkF n m' l = true := by
  have h' : (!(pv (dg n m) (n - 1) == 0) && num (nxp n (dg n m)) n == m' && decide (m < m') && chkF n m' l) = true := h
  simp only [Bool.and_eq_true, beq_iff_eq, Bool.not_eq_true', beq_eq_false_iff_ne] at h'
  exact ⟨h'.1.1.1, h'.1.1.2, h'.2⟩
theorem chk_0 {n m : Nat} (h : chkF n m [] = true) : pv (dg n m) (n - 1) = 0 := by
  have h' : (pv (dg n m) (n - 1) == 0) = true := h
  exact beq_iff_eq.mp h'
theorem pv_le (p : Nat → Nat) : ∀ k, pv p k ≤ k
  | 0 => Nat.le_refl _
  | k + 1 => by
    unfold pv
    split
    · exact Nat.le_refl _
    · have := pv_le p k; omega
theorem lj_lt (p : Nat → Nat) (a : Nat) : ∀ k, 0 < k → lj p a k < k
  | 0, h => by omega
  | k + 1, _ => by
    unfold lj
    split
    · omega
    · by_cases c : k = 0
      · subst c; exact Nat.lt_succ_of_le (Nat.le_refl _)
      · have := lj_lt p a k (by omega); omega
theorem lj_ge (p : Nat → Nat) (a : Nat) : ∀ {k j : Nat}, j < k → a ≤ p j → j ≤ lj p a k
  | 0, j, h, _ => by omega
  | k + 1, j, h, ha => by
    unfold lj
    split
    · omega
    · rename_i c
      by_cases e : j = k
      · subst e; exact absurd ha c
      · exact lj_ge p a (by omega) ha
theorem lj_ok (p : Nat → Nat) (a : Nat) : ∀ {k j : Nat}, j < k → a ≤ p j → a ≤ p (lj p a k)
  | 0, j, h, _ => by omega
  | k + 1, j, h, ha => by
    unfold lj
    split
    · assumption
    · rename_i c
      by_cases e : j = k
      · subst e; exact absurd ha c
      · exact lj_ok p a (by omega) ha
theorem lj_max (p : Nat → Nat) (a : Nat) : ∀ {k j : Nat}, lj p a k < j → j < k → ¬ a ≤ p j
  | 0, j, _, h => by omega
  | k + 1, j, h, hj => by
    unfold lj at h
    split at h
    · omega
    · rename_i c
      by_cases e : j = k
      · subst e; exact c
      · exact lj_max p a h (by omega)
/-! the reference's first and next names -/
theorem MD_firstNames_wp {M : Mem} : wp (MD_firstNames M) (fun M' => Fr [54] M M' ∧ AR M' 54 7 (fun x => x)) := by
  unfold MD_firstNames
  refine LOOP_up (fun x (t : Mem) => (nI x, t)) 7 (by omega) (fun x t => Fr [54] M t ∧ AR t 54 x (fun x => x)) (fun o => wp o _) ?_ ?_ 0 M (by omega) ⟨Fr.rf, fun j hj => by omega⟩
  · rintro x t ag hx ⟨hf, a⟩ ih
    show wp (MD_firstNames_L2 _ ag (nI x) t) _
    unfold MD_firstNames_L2
    rw [if_neg (by rw [show (7 : Int32) = nI 7 from rfl, nI_leI (by omega) (by omega)]; omega), if_pos ((inb_nI (by omega)).mpr (by omega)), nm_e', wr_nI (by omega), nI_1]
    refine ih _ ⟨hf.tr (Fr.st (by simp)), fun j hj => ?_⟩
    rw [st2_s]
    by_cases e : j = x
    · subst e; rw [upd_s]
    · rw [upd_n e]; exact a j (by omega)
  · rintro t ag ⟨hf, a⟩
    show wp (MD_firstNames_L2 _ ag (nI 7) t) _
    unfold MD_firstNames_L2
    rw [if_pos (by decide)]
    exact wp_some ⟨hf, a⟩
theorem nI_m2 (n : Nat) : nI (n + 1) - 2 = nI n - 1 := by
  rw [i_eq, Int32.toInt_sub, Int32.toInt_sub, ← nI_1, Int32.toInt_add]
  simp
  congr 1
  omega
set_option maxHeartbeats 1000000 in
theorem MD_nextNames_wp {n : Nat} {p : Nat → Nat} {M : Mem} (h1 : 1 ≤ n) (h7 : n ≤ 7) (h : AR M 54 n p) (hp : Pm n p) :
    wp (MD_nextNames (nI n) M) (fun r => Fr [54] M r.2 ∧ ((pv p (n - 1) = 0 ∧ r.1 = 0 ∧ AR r.2 54 n p) ∨ (pv p (n - 1) ≠ 0 ∧ r.1 = 1 ∧ AR r.2 54 n (nxp n p)))) := by
  have hpl := hp.1
  unfold MD_nextNames
  obtain ⟨n', rfl⟩ : ∃ n', n = n' + 1 := ⟨n - 1, by omega⟩
  rw [nm_e', nI_m2]
  -- down to the place that goes up
  refine LOOP_down (fun k (_ : Unit) => nI k - 1) (fun k _ => k ≤ n' ∧ pv p n' = pv p k) (fun o => wp o _) ?_ ?_ n' () (by omega) ⟨Nat.le_refl _, rfl⟩
  · rintro k - ag ⟨hk, hj⟩ ih
    show wp (MD_nextNames_L4 M _ ag (nI (k + 1) - 1)) _
    unfold MD_nextNames_L4
    have q1 := hpl k (by omega)
    have q2 := hpl (k + 1) (by omega)
    rw [nI_pred, nI_1, if_neg (nI_pos (by omega)), if_pos ((inb_nI (by omega)).mpr (by omega)), if_pos ((inb_nI (by omega)).mpr (by omega)), rd_nI (by omega), rd_nI (by omega), h k (by omega), h (k + 1) (by omega)]
    by_cases c : p k ≤ p (k + 1)
    · have hpv : pv p n' = k + 1 := by rw [hj]; exact if_pos c
      rw [if_pos ((nI_leI (by omega) (by omega)).mpr c)]
      dsimp only
      rw [if_pos (nI_nn (by omega)), nm_e', nI_pred]
      -- down to the last one not below
      have hlj0 := lj_ge p (p k) (k := n' + 1) (j := k + 1) (by omega) c
      have hljl := lj_lt p (p k) (n' + 1) (by omega)
      have hljo := lj_ok p (p k) (k := n' + 1) (j := k + 1) (by omega) c
      obtain ⟨J, hJ⟩ : ∃ J, J = lj p (p k) (n' + 1) := ⟨_, rfl⟩
      rw [← hJ] at hlj0 hljl hljo
      have hmax : ∀ j, J < j → j < n' + 1 → ¬ p k ≤ p j := fun j h1 h2 => lj_max p (p k) (by rw [← hJ]; exact h1) h2
      refine (show ∀ X, X = nI (J + (n' - J)) → wp (LOOP _ FU X) _ from ?_) (nI n') (by congr 1; omega)
      intro X hX
      subst hX
      refine LOOP_down (fun m (_ : Unit) => nI (J + m)) (fun m _ => J + m ≤ n') (fun o => wp o _) ?_ ?_ (n' - J) () (by omega) (by omega)
      · rintro m - ag' hm ih'
        show wp (MD_nextNames_L41 (nI k) M _ ag' (nI (J + (m + 1)))) _
        unfold MD_nextNames_L41
        have q3 := hpl (J + (m + 1)) (by omega)
        rw [if_pos ((inb_nI (by omega)).mpr (by omega)), if_pos ((inb_nI (by omega)).mpr (by omega)), rd_nI (by omega), rd_nI (by omega), h k (by omega), h (J + (m + 1)) (by omega), if_neg (by rw [nI_leI (by omega) (by omega)]; exact hmax _ (by omega) (by omega)), show J + (m + 1) = (J + m) + 1 by omega, pk_m1]
        exact ih' () (by omega)
      · rintro - ag' hm
        show wp (MD_nextNames_L41 (nI k) M _ ag' (nI (J + 0))) _
        unfold MD_nextNames_L41
        have q3 := hpl J (by omega)
        have e7 : ∀ x, x < n' + 1 → inb (nI x) 7 := fun x hx => (inb_nI (by omega)).mpr (by omega)
        rw [Nat.add_zero, if_pos (e7 J hljl), if_pos (e7 k (by omega)), rd_nI (by omega), rd_nI (by omega), h k (by omega), h J hljl, if_pos ((nI_leI (by omega) (by omega)).mpr hljo)]
        dsimp only
        rw [if_pos (e7 k (by omega)), nm_e', if_pos (e7 J hljl), if_pos (e7 k (by omega)), nm_e', if_pos (e7 J hljl), nm_e', nm_e', nm_e', nI_1, rd_nI (by omega), wr_nI (by omega), wr_nI (by omega), h J hljl]
        obtain ⟨M2, hM2⟩ : ∃ M2, M2 = st2 (st2 M 54 k (nI (p J))) 54 J (nI (p k)) := ⟨_, rfl⟩
        rw [← hM2]
        have a2 : AR M2 54 (n' + 1) (swp p k J) := fun u hu => by
          rw [hM2, st2_s]
          unfold swp
          by_cases e1 : u = J
          · subst e1; rw [upd_s, if_pos rfl]
          · rw [upd_n e1, if_neg e1, st2_s]
            by_cases e2 : u = k
            · subst e2; rw [upd_s, if_pos rfl]
            · rw [upd_n e2, if_neg e2]; exact h u hu
        have f2 : Fr [54] M M2 := by rw [hM2]; exact (Fr.st (by simp)).tr (Fr.st (by simp))
        have hnx : nxp (n' + 1) p = nxq (n' + 1) p k J := by
          unfold nxp
          rw [show n' + 1 - 1 = n' by omega, hpv, show k + 1 - 1 = k by omega, ← hJ]
        refine LOOP_inv (fun d (s : Int32 × Int32 × Mem) => ∃ s0, d = n' - s0 ∧ 2 * s0 ≤ n' - k ∧ s.1 = nI (k + 1 + s0) ∧ s.2.1 = nI (n' - s0) ∧ Fr [54] M s.2.2 ∧ ∀ u, u < n' + 1 → s.2.2 54 u = nI (if u ≤ k then swp p k J u else if u < k + 1 + s0 ∨ n' - s0 < u then swp p k J (k + (n' + 1) - u) else swp p k J u)) (fun o => wp o _) ?_ FU n' (nI (k + 1), nI n', M2) (by unfold FU; omega) ⟨0, by omega, by omega, rfl, rfl, f2, fun u hu => ?_⟩
        · rintro d ⟨v5, v6, t⟩ ag'' ⟨s0, rfl, k1, e5, e6, hf, hc⟩ ih''
          dsimp only at e5 e6 hf hc
          subst e5 e6
          show wp (MD_nextNames_L100 _ ag'' (nI (k + 1 + s0)) (nI (n' - s0)) t) _
          unfold MD_nextNames_L100
          by_cases cx : n' - s0 ≤ k + 1 + s0
          · rw [if_pos ((nI_leI (by omega) (by omega)).mpr cx)]
            refine wp_some ⟨hf, Or.inr ⟨?_, rfl, fun u hu => ?_⟩⟩
            · rw [show n' + 1 - 1 = n' by omega, hpv]; omega
            · rw [hnx]
              show t 54 u = _
              rw [hc u hu]
              unfold nxq
              by_cases e1 : u ≤ k
              · rw [if_pos e1, if_pos e1]
              · rw [if_neg e1, if_neg e1]
                by_cases e2 : u < k + 1 + s0 ∨ n' - s0 < u
                · rw [if_pos e2]
                · rw [if_neg e2, show k + (n' + 1) - u = u by omega]
          · rw [if_neg (fun z => cx ((nI_leI (by omega) (by omega)).mp z)), if_pos (e7 _ (by omega)), nm_e', if_pos (e7 _ (by omega)), if_pos (e7 _ (by omega)), nm_e', if_pos (e7 _ (by omega)), nm_e', nI_1, show n' - s0 = (n' - (s0 + 1)) + 1 by omega, pk_m1, show (n' - (s0 + 1)) + 1 = n' - s0 by omega, rd_nI (by omega), rd_nI (by omega), wr_nI (by omega), wr_nI (by omega)]
            refine ih'' (n' - (s0 + 1)) _ (by omega) ⟨s0 + 1, rfl, by omega, rfl, rfl, (hf.tr (Fr.st (by simp))).tr (Fr.st (by simp)), fun u hu => ?_⟩
            dsimp only
            rw [st2_s]
            by_cases e1 : u = n' - s0
            · rw [e1, upd_s, hc _ (by omega), if_neg (by omega), if_neg (by omega), if_neg (by omega), if_pos (by omega), show k + (n' + 1) - (n' - s0) = k + 1 + s0 by omega]
            · rw [upd_n e1, st2_s]
              by_cases e2 : u = k + 1 + s0
              · rw [e2, upd_s, hc _ (by omega), if_neg (by omega), if_neg (by omega), if_neg (by omega), if_pos (by omega), show k + (n' + 1) - (k + 1 + s0) = n' - s0 by omega]
              · rw [upd_n e2, hc u hu]
                by_cases e3 : u ≤ k
                · rw [if_pos e3, if_pos e3]
                · rw [if_neg e3, if_neg e3]
                  by_cases e4 : u < k + 1 + s0 ∨ n' - s0 < u
                  · rw [if_pos e4, if_pos (by omega)]
                  · rw [if_neg e4, if_neg (by omega)]
        · show M2 54 u = _
          rw [a2 u hu]
          by_cases e1 : u ≤ k
          · rw [if_pos e1]
          · rw [if_neg e1, if_neg (by omega)]
    · rw [if_neg (fun z => c ((nI_leI (by omega) (by omega)).mp z)), i_m1]
      refine ih () ⟨by omega, ?_⟩
      rw [hj]; exact if_neg c
  · rintro - ag ⟨hk, hj⟩
    show wp (MD_nextNames_L4 M _ ag (nI 0 - 1)) _
    unfold MD_nextNames_L4
    rw [if_pos down0]
    dsimp only
    rw [if_neg (by decide)]
    exact wp_some ⟨Fr.rf, Or.inl ⟨hj, rfl, h⟩⟩
