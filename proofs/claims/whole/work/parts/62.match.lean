/-! by hand: shift: names of parts: the table over sets against all orders -/
def shN (n : Nat) (p1 p2 : Nat → Nat) (p q : Nat) : Nat := sm n (fun x => if p1 x = p ∧ p2 x = q then 1 else 0)
def stN (n : Nat) (p1 p2 f : Nat → Nat) : Nat := sm n (fun x => if f (p1 x) = p2 x then 1 else 0)
theorem stN_le {n : Nat} {p1 p2 f : Nat → Nat} : stN n p1 p2 f ≤ n := by
  have := sm_le (n := n) (b := 1) (f := fun x => if f (p1 x) = p2 x then 1 else 0) (fun x _ => by split <;> omega)
  unfold stN; omega
theorem stN_sh {n : Nat} {p1 p2 f : Nat → Nat} (h1 : ∀ x, x < n → p1 x < n) : sm n (fun p => shN n p1 p2 p (f p)) = stN n p1 p2 f := by
  unfold shN stN
  rw [sm_swap]
  refine sm_cg (fun x hx => ?_)
  rw [sm_cg (g := fun p => if p1 x = p then (if f p = p2 x then 1 else 0) else 0) (fun p _ => ?_), sm_one (f := fun p => if f p = p2 x then 1 else 0) (h1 x hx)]
  by_cases c : p1 x = p
  · by_cases c2 : p2 x = f p
    · rw [if_pos ⟨c, c2⟩, if_pos c, if_pos c2.symm]
    · rw [if_neg (fun z => c2 z.2), if_pos c, if_neg (fun z => c2 z.symm)]
  · rw [if_neg (fun z => c z.1), if_neg c]
def bfF (n : Nat) (p1 p2 : Nat → Nat) (D : Nat → Nat) (p S : Nat) : Nat → Nat
  | 0 => D S
  | q + 1 => if S.testBit q then max (bfF n p1 p2 D p S q) (D (clr S q) + shN n p1 p2 p q) else bfF n p1 p2 D p S q
theorem bfF_s (n : Nat) (p1 p2 : Nat → Nat) (D : Nat → Nat) (p S q : Nat) : bfF n p1 p2 D p S (q + 1) = if S.testBit q then max (bfF n p1 p2 D p S q) (D (clr S q) + shN n p1 p2 p q) else bfF n p1 p2 D p S q := rfl
theorem bfF_ge {n : Nat} {p1 p2 D : Nat → Nat} {p S : Nat} : ∀ k, D S ≤ bfF n p1 p2 D p S k ∧ ∀ q, q < k → S.testBit q = true → D (clr S q) + shN n p1 p2 p q ≤ bfF n p1 p2 D p S k
  | 0 => ⟨Nat.le_refl _, fun q hq => by omega⟩
  | k + 1 => by
    obtain ⟨h1, h2⟩ := bfF_ge (n := n) (p1 := p1) (p2 := p2) (D := D) (p := p) (S := S) k
    rw [bfF_s]
    by_cases c : S.testBit k = true
    · rw [if_pos c]
      refine ⟨by omega, fun q hq hb => ?_⟩
      by_cases e : q = k
      · rw [e]; omega
      · have := h2 q (by omega) hb; omega
    · rw [if_neg c]
      refine ⟨h1, fun q hq hb => ?_⟩
      by_cases e : q = k
      · rw [e] at hb; exact absurd hb c
      · exact h2 q (by omega) hb
theorem bfF_is {n : Nat} {p1 p2 D : Nat → Nat} {p S : Nat} : ∀ k, bfF n p1 p2 D p S k = D S ∨ ∃ q, q < k ∧ S.testBit q = true ∧ bfF n p1 p2 D p S k = D (clr S q) + shN n p1 p2 p q
  | 0 => Or.inl rfl
  | k + 1 => by
    rw [bfF_s]
    have ih := bfF_is (n := n) (p1 := p1) (p2 := p2) (D := D) (p := p) (S := S) k
    by_cases c : S.testBit k = true
    · rw [if_pos c]
      rcases Nat.le_total (bfF n p1 p2 D p S k) (D (clr S k) + shN n p1 p2 p k) with h | h
      · exact Or.inr ⟨k, by omega, c, by omega⟩
      · rw [show max (bfF n p1 p2 D p S k) (D (clr S k) + shN n p1 p2 p k) = bfF n p1 p2 D p S k by omega]
        rcases ih with h2 | ⟨q, h2, h3, h4⟩
        · exact Or.inl h2
        · exact Or.inr ⟨q, by omega, h3, h4⟩
    · rw [if_neg c]
      rcases ih with h2 | ⟨q, h2, h3, h4⟩
      · exact Or.inl h2
      · exact Or.inr ⟨q, by omega, h3, h4⟩
def dpT (n : Nat) (p1 p2 : Nat → Nat) (k : Nat) : Nat → Nat → Nat
  | 0, _ => 0
  | p + 1, S => bfF n p1 p2 (dpT n p1 p2 k p) p S k
theorem dpT_s (n : Nat) (p1 p2 : Nat → Nat) (k p S : Nat) : dpT n p1 p2 k (p + 1) S = bfF n p1 p2 (dpT n p1 p2 k p) p S k := rfl
theorem dpT_up {n k : Nat} {p1 p2 f : Nat → Nat} (hk : k ≤ 7) (hf : Pm n f) (h7 : n ≤ 7) : ∀ p S, p ≤ n → S < 128 → (∀ q, q < 7 → S.testBit q = true → q < k) → sm p (fun e => if S.testBit (f e) = true then shN n p1 p2 e (f e) else 0) ≤ dpT n p1 p2 k p S
  | 0, _, _, _, _ => Nat.le_refl _
  | p + 1, S, hp, hS, hb => by
    rw [sm_s, dpT_s]
    obtain ⟨g1, g2⟩ := bfF_ge (n := n) (p1 := p1) (p2 := p2) (D := dpT n p1 p2 k p) (p := p) (S := S) k
    have hfp := hf.1 p (by omega)
    by_cases c : S.testBit (f p) = true
    · rw [if_pos c]
      have hc := (mk_clr S hS (f p) (by omega)).2
      have ih := dpT_up (p1 := p1) (p2 := p2) hk hf h7 p (clr S (f p)) (by omega) hc (fun q hq hqb => hb q hq (by
        rw [clr_bit S hS (f p) (by omega) q hq, Bool.and_eq_true] at hqb
        exact hqb.1))
      have e : sm p (fun e => if S.testBit (f e) = true then shN n p1 p2 e (f e) else 0) = sm p (fun e => if (clr S (f p)).testBit (f e) = true then shN n p1 p2 e (f e) else 0) := sm_cg (fun e he => by
        have hfe := hf.1 e (by omega)
        rw [clr_bit S hS (f p) (by omega) (f e) (by omega), show (f e == f p) = false from beq_eq_false_iff_ne.mpr (fun z => by have := hf.2 e p (by omega) (by omega) z; omega), Bool.not_false, Bool.and_true])
      rw [e]
      have := g2 (f p) (hb _ (by omega) c) c
      omega
    · rw [if_neg c]
      have ih := dpT_up (p1 := p1) (p2 := p2) hk hf h7 p S (by omega) hS hb
      omega
theorem dpT_lo {n k : Nat} {p1 p2 : Nat → Nat} (hk : k ≤ n) (h7 : n ≤ 7) : ∀ p S, p ≤ n → S < 128 → ∃ (f : Nat → Nat) (A : Nat → Bool), Pm n f ∧ (∀ e, e < p → A e = true → S.testBit (f e) = true) ∧ sm p (fun e => if A e = true then shN n p1 p2 e (f e) else 0) = dpT n p1 p2 k p S
  | 0, _, _, _ => ⟨fun x => x, fun _ => false, Pm.id n, fun e he => by omega, rfl⟩
  | p + 1, S, hp, hS => by
    rw [dpT_s]
    rcases bfF_is (n := n) (p1 := p1) (p2 := p2) (D := dpT n p1 p2 k p) (p := p) (S := S) k with h | ⟨q, h1, h2, h3⟩
    · obtain ⟨f, A, a1, a2, a3⟩ := dpT_lo (p1 := p1) (p2 := p2) hk h7 p S (by omega) hS
      obtain ⟨B, bp, be⟩ : ∃ B : Nat → Bool, B p = false ∧ ∀ e, e ≠ p → B e = A e := ⟨fun e => if e = p then false else A e, if_pos rfl, fun e he => if_neg he⟩
      refine ⟨f, B, a1, fun e he hA => ?_, ?_⟩
      · by_cases c : e = p
        · rw [c, bp] at hA; cases hA
        · rw [be e c] at hA; exact a2 e (by omega) hA
      · rw [sm_s, h, ← a3, bp, if_neg (by decide), Nat.add_zero]
        exact sm_cg (fun e he => by rw [be e (by omega)])
    · have hc := (mk_clr S hS q (by omega)).2
      obtain ⟨f, A, a1, a2, a3⟩ := dpT_lo (p1 := p1) (p2 := p2) hk h7 p (clr S q) (by omega) hc
      have hfp := a1.1 p (by omega)
      obtain ⟨B, bp, be⟩ : ∃ B : Nat → Bool, B p = true ∧ ∀ e, e ≠ p → B e = A e := ⟨fun e => if e = p then true else A e, if_pos rfl, fun e he => if_neg he⟩
      obtain ⟨f', hf'⟩ : ∃ f' : Nat → Nat, ∀ x, f' x = tau (f p) q (f x) := ⟨fun x => tau (f p) q (f x), fun _ => rfl⟩
      have hke : ∀ e, e < p → A e = true → f' e = f e ∧ S.testBit (f e) = true := fun e he hA => by
        have hb := a2 e he hA
        have hfe := a1.1 e (by omega)
        rw [clr_bit S hS q (by omega) (f e) (by omega), Bool.and_eq_true, Bool.not_eq_true'] at hb
        rw [hf']
        exact ⟨tau_n (fun z => by have := a1.2 e p (by omega) (by omega) z; omega) (beq_eq_false_iff_ne.mp hb.2), hb.1⟩
      have hfp' : f' p = q := by rw [hf', tau_x]
      refine ⟨f', B, ((tau_pm hfp (show q < n by omega)).cmp a1).cg (fun x _ => (hf' x).symm), fun e he hA => ?_, ?_⟩
      · by_cases c : e = p
        · rw [c, hfp']; exact h2
        · rw [be e c] at hA
          have h4 := hke e (by omega) hA
          rw [h4.1]; exact h4.2
      · rw [sm_s, h3, ← a3, bp, if_pos rfl, hfp']
        congr 1
        refine sm_cg (fun e he => ?_)
        rw [be e (by omega)]
        by_cases c : A e = true
        · rw [if_pos c, if_pos c, (hke e he c).1]
        · rw [if_neg c, if_neg c]
def mxL (φ : Nat → Nat) (l : List Nat) : Nat := l.foldl (fun b m => max b (φ m)) 0
theorem mx_fold (φ : Nat → Nat) (v : Nat) : ∀ (l : List Nat) (b : Nat), b ≤ v → (∀ m, m ∈ l → φ m ≤ v) → (b = v ∨ ∃ m, m ∈ l ∧ φ m = v) → l.foldl (fun b m => max b (φ m)) b = v
  | [], b, _, _, h => by
    rcases h with rfl | ⟨m, hm, -⟩
    · rfl
    · cases hm
  | a :: t, b, h1, h2, h3 => by
    rw [List.foldl_cons]
    have ha := h2 a List.mem_cons_self
    refine mx_fold φ v t _ (by omega) (fun m hm => h2 m (List.mem_cons_of_mem _ hm)) ?_
    rcases h3 with rfl | ⟨m, hm, e⟩
    · exact Or.inl (by omega)
    · rcases List.mem_cons.mp hm with rfl | hm
      · exact Or.inl (by omega)
      · exact Or.inr ⟨m, hm, e⟩
theorem mxL_a (φ : Nat → Nat) (l : List Nat) (m : Nat) : mxL φ (l ++ [m]) = max (mxL φ l) (φ m) := by
  unfold mxL
  rw [List.foldl_append]; rfl
/-- the most that keep their parts, by all orders -/
def kpM (n : Nat) (p1 p2 : Nat → Nat) : Nat := mxL (fun m => stN n p1 p2 (dg n m)) (PL n)
theorem stN_cg {n : Nat} {p1 p2 f g : Nat → Nat} (h1 : ∀ x, x < n → p1 x < n) (h : ∀ x, x < n → f x = g x) : stN n p1 p2 f = stN n p1 p2 g := sm_cg (fun x hx => by rw [h _ (h1 x hx)])
theorem dpT_le {n k p S : Nat} {p1 p2 : Nat → Nat} (hk : k ≤ n) (h7 : n ≤ 7) (hp : p ≤ n) (hS : S < 128) (h1 : ∀ x, x < n → p1 x < n) : ∃ f, Pm n f ∧ dpT n p1 p2 k p S ≤ stN n p1 p2 f := by
  obtain ⟨f, A, a1, -, a3⟩ := dpT_lo (p1 := p1) (p2 := p2) hk h7 p S hp hS
  refine ⟨f, a1, ?_⟩
  rw [← a3, ← stN_sh h1]
  have q1 := sm_mono (n := p) (f := fun e => if A e = true then shN n p1 p2 e (f e) else 0) (g := fun e => shN n p1 p2 e (f e)) (fun e _ => by split <;> omega)
  have q2 : ∀ m, p ≤ m → sm p (fun e => shN n p1 p2 e (f e)) ≤ sm m (fun e => shN n p1 p2 e (f e)) := by
    intro m
    induction m with
    | zero => intro h; rw [show p = 0 by omega]; exact Nat.le_refl _
    | succ m ih =>
      intro h
      by_cases c : p = m + 1
      · rw [c]; exact Nat.le_refl _
      · rw [sm_s]
        have := ih (by omega); omega
  have := q2 n hp
  omega
theorem dpT_n {n k p S : Nat} {p1 p2 : Nat → Nat} (hk : k ≤ n) (h7 : n ≤ 7) (hp : p ≤ n) (hS : S < 128) (h1 : ∀ x, x < n → p1 x < n) : dpT n p1 p2 k p S ≤ 7 := by
  obtain ⟨f, -, h⟩ := dpT_le hk h7 hp hS h1 (p2 := p2)
  have := stN_le (n := n) (p1 := p1) (p2 := p2) (f := f)
  omega
theorem keep_ok {n k1 k2 : Nat} {p1 p2 : Nat → Nat} (h1n : 1 ≤ n) (h7 : n ≤ 7) (h1 : ∀ x, x < n → p1 x < k1) (h2 : ∀ x, x < n → p2 x < k2) (hk1 : k1 ≤ n) (hk2 : k2 ≤ n) : kpM n p1 p2 = dpT n p1 p2 k2 k1 (2 ^ k2 - 1) := by
  have h1' : ∀ x, x < n → p1 x < n := fun x hx => by have := h1 x hx; omega
  have hW : 2 ^ k2 - 1 < 128 := by
    have : 2 ^ k2 ≤ 2 ^ 7 := Nat.pow_le_pow_right (by omega) (by omega)
    omega
  refine mx_fold _ _ (PL n) 0 (Nat.zero_le _) (fun m hm => ?_) ?_
  · have hp := (PL_inv h7 hm).1
    have hu := dpT_up (p1 := p1) (p2 := p2) (show k2 ≤ 7 by omega) hp h7 k1 (2 ^ k2 - 1) hk1 hW (fun q _ hq => by rw [Nat.testBit_two_pow_sub_one] at hq; exact of_decide_eq_true hq)
    rw [← stN_sh h1', sm_cut (n := n) (m := k1) hk1 (fun p hp1 hp2 => ?_)]
    · refine Nat.le_trans (Nat.le_of_eq (sm_cg (fun e he => ?_))) hu
      rw [Nat.testBit_two_pow_sub_one]
      by_cases c : dg n m e < k2
      · rw [if_pos (decide_eq_true c)]
      · rw [if_neg (by rw [decide_eq_true_iff]; exact c)]
        refine (sm_cg (g := fun _ => 0) (fun x hx => if_neg (fun z => ?_))).trans sm_0
        have := h2 x hx; omega
    · refine (sm_cg (g := fun _ => 0) (fun x hx => if_neg (fun z => ?_))).trans sm_0
      have := h1 x hx; omega
  · obtain ⟨f, hf, hle⟩ := dpT_le (p1 := p1) (p2 := p2) hk2 h7 hk1 hW h1'
    refine Or.inr ⟨num f n, PL_mem hf, ?_⟩
    rw [stN_cg h1' (hf.dgn h7)]
    have hu := dpT_up (p1 := p1) (p2 := p2) (show k2 ≤ 7 by omega) hf h7 k1 (2 ^ k2 - 1) hk1 hW (fun q _ hq => by rw [Nat.testBit_two_pow_sub_one] at hq; exact of_decide_eq_true hq)
    refine Nat.le_antisymm ?_ hle
    rw [← stN_sh h1', sm_cut (n := n) (m := k1) hk1 (fun p hp1 hp2 => ?_)]
    · refine Nat.le_trans (Nat.le_of_eq (sm_cg (fun e he => ?_))) hu
      rw [Nat.testBit_two_pow_sub_one]
      by_cases c : f e < k2
      · rw [if_pos (decide_eq_true c)]
      · rw [if_neg (by rw [decide_eq_true_iff]; exact c)]
        refine (sm_cg (g := fun _ => 0) (fun x hx => if_neg (fun z => ?_))).trans sm_0
        have := h2 x hx; omega
    · refine (sm_cg (g := fun _ => 0) (fun x hx => if_neg (fun z => ?_))).trans sm_0
      have := h1 x hx; omega
