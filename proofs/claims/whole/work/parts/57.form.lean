/-! by hand: the least row -/
theorem num_lex {r r' : Nat → Nat} : ∀ {N i : Nat}, (∀ j, j < N → r j < 10) → i < N → (∀ j, j < i → r j = r' j) → r i < r' i → num r N < num r' N
  | 0, i, _, hi, _, _ => by omega
  | N + 1, i, h, hi, he, hl => by
    rw [num_s, num_s]
    by_cases c : i = N
    · rw [c] at he hl
      rw [num_cg he]; omega
    · have h1 := num_lex (N := N) (i := i) (fun j hj => h j (by omega)) (by omega) he hl
      have h2 := h N (by omega)
      omega
theorem num_le {r r' : Nat → Nat} {N : Nat} (h : ∀ j, j < N → r' j < 10) (hle : num r N ≤ num r' N) {i : Nat} (hi : i < N) (he : ∀ j, j < i → r j = r' j) : r i ≤ r' i := by
  rcases Nat.lt_or_ge (r' i) (r i) with c | c
  · have := num_lex (r := r') (r' := r) h hi (fun j hj => (he j hj).symm) c
    omega
  · exact c
def mnF (φ : Nat → Nat) : List Nat → Nat
  | [] => 0
  | a :: t => t.foldl (fun b m => min b (φ m)) (φ a)
theorem mn_fold (φ : Nat → Nat) (v : Nat) : ∀ (l : List Nat) (b : Nat), v ≤ b → (∀ m, m ∈ l → v ≤ φ m) → (b = v ∨ ∃ m, m ∈ l ∧ φ m = v) → l.foldl (fun b m => min b (φ m)) b = v
  | [], b, _, _, h => by
    rcases h with rfl | ⟨m, hm, -⟩
    · rfl
    · cases hm
  | a :: t, b, h1, h2, h3 => by
    rw [List.foldl_cons]
    have ha := h2 a List.mem_cons_self
    refine mn_fold φ v t _ (by omega) (fun m hm => h2 m (List.mem_cons_of_mem _ hm)) ?_
    rcases h3 with rfl | ⟨m, hm, e⟩
    · exact Or.inl (by omega)
    · rcases List.mem_cons.mp hm with rfl | hm
      · exact Or.inl (by omega)
      · exact Or.inr ⟨m, hm, e⟩
theorem mnF_eq {φ : Nat → Nat} {l : List Nat} {m : Nat} (hm : m ∈ l) (h : ∀ a, a ∈ l → φ m ≤ φ a) : mnF φ l = φ m := by
  cases l with
  | nil => cases hm
  | cons a t =>
    refine mn_fold φ (φ m) t (φ a) (h a List.mem_cons_self) (fun b hb => h b (List.mem_cons_of_mem _ hb)) ?_
    rcases List.mem_cons.mp hm with rfl | hm
    · exact Or.inl rfl
    · exact Or.inr ⟨m, hm, rfl⟩
theorem mn_ex (φ : Nat → Nat) : ∀ (l : List Nat), l ≠ [] → ∃ m, m ∈ l ∧ ∀ a, a ∈ l → φ m < φ a ∨ (φ m = φ a ∧ m ≤ a)
  | [], h => absurd rfl h
  | [a], _ => ⟨a, List.mem_cons_self, fun b hb => by
    rw [List.mem_singleton] at hb
    rw [hb]; exact Or.inr ⟨rfl, Nat.le_refl _⟩⟩
  | a :: b :: t, _ => by
    obtain ⟨m, hm, h⟩ := mn_ex φ (b :: t) (by simp)
    by_cases c : φ m < φ a ∨ (φ m = φ a ∧ m ≤ a)
    · refine ⟨m, List.mem_cons_of_mem _ hm, fun x hx => ?_⟩
      rcases List.mem_cons.mp hx with rfl | hx
      · exact c
      · exact h x hx
    · refine ⟨a, List.mem_cons_self, fun x hx => ?_⟩
      rcases List.mem_cons.mp hx with rfl | hx
      · exact Or.inr ⟨rfl, Nat.le_refl _⟩
      · have := h x hx; omega
/-- the row of a way to rename -/
def rwF (S ma : Nat → Nat) (n : Nat) (f : Nat → Nat) (i : Nat) : Nat := if i < n then ma (f i) else sg S ((i - n) / (n * n)) (f ((i - n) / n % n)) (f ((i - n) % n))
def rwN (S ma : Nat → Nat) (n : Nat) (f : Nat → Nat) : Nat := num (rwF S ma n f) (n + 3 * n * n)
def frm (S ma : Nat → Nat) (n : Nat) : Nat := mnF (fun m => rwN S ma n (dg n m)) (PL n)
theorem n17 {n : Nat} (h1 : 1 ≤ n) (h7 : n ≤ 7) : n = 1 ∨ n = 2 ∨ n = 3 ∨ n = 4 ∨ n = 5 ∨ n = 6 ∨ n = 7 := by omega
theorem ix_b {n k x z : Nat} (h7 : n ≤ 7) (hk : k < 3) (hx : x < n) (hz : z < n) : n + (k * n + x) * n + z < n + 3 * n * n ∧ n + 3 * n * n ≤ 154 := by
  rcases n17 (by omega) h7 with rfl | rfl | rfl | rfl | rfl | rfl | rfl <;> omega
theorem ix_d {n k x z : Nat} (h7 : n ≤ 7) (hx : x < n) (hz : z < n) : (n + (k * n + x) * n + z - n) / (n * n) = k ∧ (n + (k * n + x) * n + z - n) / n % n = x ∧ (n + (k * n + x) * n + z - n) % n = z := by
  rcases n17 (by omega) h7 with rfl | rfl | rfl | rfl | rfl | rfl | rfl <;> omega
theorem ix_u {n i : Nat} (h1 : 1 ≤ n) (h7 : n ≤ 7) (hi : n ≤ i) (hN : i < n + 3 * n * n) : (i - n) / (n * n) < 3 ∧ (i - n) / n % n < n ∧ (i - n) % n < n ∧ i = n + ((i - n) / (n * n) * n + (i - n) / n % n) * n + (i - n) % n := by
  rcases n17 h1 h7 with rfl | rfl | rfl | rfl | rfl | rfl | rfl <;> omega
theorem ix_N {n : Nat} (h7 : n ≤ 7) : n + 3 * n * n ≤ 154 := by
  by_cases c : n = 0
  · subst c; decide
  · rcases n17 (by omega) h7 with rfl | rfl | rfl | rfl | rfl | rfl | rfl <;> decide
theorem rw_m {S ma f : Nat → Nat} {n i : Nat} (h : i < n) : rwF S ma n f i = ma (f i) := if_pos h
theorem rw_k {S ma f : Nat → Nat} {n k x z : Nat} (h7 : n ≤ 7) (hx : x < n) (hz : z < n) : rwF S ma n f (n + (k * n + x) * n + z) = sg S k (f x) (f z) := by
  obtain ⟨a1, a2, a3⟩ := ix_d (k := k) h7 hx hz
  unfold rwF
  rw [if_neg (by omega), a1, a2, a3]
theorem rw_cg {S ma f g : Nat → Nat} {n : Nat} (h1 : 1 ≤ n) (h : ∀ x, x < n → f x = g x) : ∀ i, rwF S ma n f i = rwF S ma n g i := fun i => by
  unfold rwF
  by_cases c : i < n
  · rw [if_pos c, if_pos c, h i c]
  · rw [if_neg c, if_neg c, h _ (Nat.mod_lt _ (by omega)), h _ (Nat.mod_lt _ (by omega))]
theorem rwN_cg {S ma f g : Nat → Nat} {n : Nat} (h1 : 1 ≤ n) (h : ∀ x, x < n → f x = g x) : rwN S ma n f = rwN S ma n g := num_cg (fun i _ => rw_cg h1 h i)
def S9 (S : Nat → Nat) : Prop := ∀ k x z, k < 3 → x < 7 → z < 7 → sg S k x z ≤ 9
theorem rw_lt {S ma f : Nat → Nat} {n : Nat} (hw : TWF n ma S) (h9 : S9 S) (hf : ∀ x, x < n → f x < n) : ∀ i, i < n + 3 * n * n → rwF S ma n f i < 10 := fun i hi => by
  have h7 := hw.2.1
  by_cases c : i < n
  · rw [rw_m c]
    have := hw.2.2.1 (f i) (by have := hf i c; omega)
    omega
  · obtain ⟨a1, a2, a3, a4⟩ := ix_u hw.1 h7 (by omega) hi
    unfold rwF
    rw [if_neg c]
    have q1 := hf _ a2
    have q2 := hf _ a3
    have := h9 ((i - n) / (n * n)) (f ((i - n) / n % n)) (f ((i - n) % n)) a1 (by omega) (by omega)
    omega
theorem frm_of {S ma : Nat → Nat} {n m : Nat} (hm : m ∈ PL n) (h : ∀ a, a ∈ PL n → rwN S ma n (dg n m) ≤ rwN S ma n (dg n a)) : frm S ma n = rwN S ma n (dg n m) := mnF_eq hm h
/-- the first one of the least -/
theorem frm_ex {S ma : Nat → Nat} {n : Nat} (h1 : 1 ≤ n) (h7 : n ≤ 7) : ∃ f, Pm n f ∧ frm S ma n = rwN S ma n f ∧ ∀ g, Pm n g → rwN S ma n f ≤ rwN S ma n g ∧ (rwN S ma n f = rwN S ma n g → num f n ≤ num g n) := by
  obtain ⟨l, e, -⟩ := PL_cons h1 h7
  obtain ⟨m, hm, h⟩ := mn_ex (fun m => rwN S ma n (dg n m)) (PL n) (by rw [e]; simp)
  have hp := PL_inv h7 hm
  refine ⟨dg n m, hp.1, frm_of hm (fun a ha => by have := h a ha; omega), fun g hg => ?_⟩
  have h2 := h (num g n) (PL_mem hg)
  rw [rwN_cg h1 (hg.dgn h7)] at h2
  rw [hp.2]
  omega
theorem bhd {a d : Nat} (ha : a < 1000000007) (hd : d < 10) : jrml ((lN a * 10) + (nI d).toInt64) 1000000007 = lN ((a * 10 + d) % 1000000007) := by
  unfold jrml
  rw [show (10 : Int64) = lN 10 from rfl, show (1000000007 : Int64) = lN 1000000007 from rfl, lN_mul, nI_l (by omega), lN_add, pk_lRem (by omega) (by omega) (by omega)]
theorem bhd' {a d : Nat} (ha : a < 1000000007) (hd : d < 10) : jrml ((10 * lN a) + (nI d).toInt64) 1000000007 = lN ((a * 10 + d) % 1000000007) := by
  unfold jrml
  rw [show (10 : Int64) = lN 10 from rfl, show (1000000007 : Int64) = lN 1000000007 from rfl, lN_mul, nI_l (by omega), lN_add, pk_lRem (by omega) (by omega) (by omega), Nat.mul_comm 10 a]
theorem num_md (r : Nat → Nat) (k : Nat) : num r (k + 1) % 1000000007 = (num r k % 1000000007 * 10 + r k) % 1000000007 := by
  rw [num_s]; omega
def R_form (σ : Sg) : Ans := (σ, nI (frm (sS σ) σ.2.2.2.2.2.1 σ.1 % 1000000007))
