/-! by hand: the search through orders: how far it is, how many steps are left -/
def pg (g : Nat → Nat) (d p : Nat) : Nat → Nat := fun e => if e = d then p else g e
theorem pg_s {g : Nat → Nat} {d p : Nat} : pg g d p d = p := if_pos rfl
theorem pg_n {g : Nat → Nat} {d p e : Nat} (h : e ≠ d) : pg g d p e = g e := if_neg h
theorem pg_l {g : Nat → Nat} {d p e : Nat} (h : e < d) : pg g d p e = g e := if_neg (by omega)
theorem IJ.pg {g : Nat → Nat} {n d p : Nat} (h : IJ d n g) (hp : p < n) (hu : us g d p = false) : IJ (d + 1) n (pg g d p) := by
  have hne : ∀ e, e < d → g e ≠ p := fun e he z => by
    rw [us_iff.mpr ⟨e, he, z⟩] at hu; cases hu
  refine ⟨fun e he => ?_, fun e e' he he' z => ?_⟩
  · by_cases c : e = d
    · rw [c, pg_s]; exact hp
    · rw [pg_n c]; exact h.1 e (by omega)
  · by_cases c : e = d <;> by_cases c' : e' = d
    · omega
    · rw [c, pg_s, pg_n c'] at z; exact absurd z.symm (hne e' (by omega))
    · rw [c', pg_s, pg_n c] at z; exact absurd z (hne e (by omega))
    · rw [pg_n c, pg_n c'] at z; exact h.2 e e' (by omega) (by omega) z
/-- free ones from c on -/
def fc (n : Nat) (g : Nat → Nat) (d c : Nat) : Nat := sm n (fun p => if c ≤ p ∧ us g d p = false then 1 else 0)
def Wt : Nat → Nat
  | 0 => 2
  | k + 1 => 2 + (k + 1) * Wt k
theorem Wt_s (k : Nat) : Wt (k + 1) = 2 + (k + 1) * Wt k := rfl
def lv (n : Nat) (g : Nat → Nat) (d c : Nat) : Nat := 1 + fc n g d c * Wt (n - d - 1)
def pt (n : Nat) (g : Nat → Nat) : Nat → Nat
  | 0 => 0
  | d + 1 => pt n g d + lv n g d (g d + 1)
theorem pt_s (n : Nat) (g : Nat → Nat) (d : Nat) : pt n g (d + 1) = pt n g d + lv n g d (g d + 1) := rfl
def ptl (n d c : Nat) (g : Nat → Nat) : Nat := pt n g d + if d < n then lv n g d c else 1
theorem fc_cg {n d c : Nat} {g g' : Nat → Nat} (h : ∀ e, e < d → g e = g' e) : fc n g d c = fc n g' d c := sm_cg (fun p _ => by rw [us_cg h])
theorem lv_cg {n d c : Nat} {g g' : Nat → Nat} (h : ∀ e, e < d → g e = g' e) : lv n g d c = lv n g' d c := by unfold lv; rw [fc_cg h]
theorem pt_cg {n : Nat} {g g' : Nat → Nat} : ∀ {d : Nat}, (∀ e, e < d → g e = g' e) → pt n g d = pt n g' d
  | 0, _ => rfl
  | d + 1, h => by rw [pt_s, pt_s, pt_cg (d := d) (fun e he => h e (by omega)), lv_cg (g' := g') (fun e he => h e (by omega)), h d (by omega)]
theorem sm_lt1 {f g : Nat → Nat} {p : Nat} : ∀ {n : Nat}, (∀ q, q < n → f q ≤ g q) → p < n → f p + 1 ≤ g p → sm n f + 1 ≤ sm n g
  | 0, _, hp, _ => by omega
  | n + 1, h, hp, h1 => by
    rw [sm_s, sm_s]
    have hn := h n (by omega)
    by_cases c : p = n
    · have := sm_mono (n := n) (f := f) (g := g) (fun q hq => h q (by omega))
      rw [c] at h1; omega
    · have := sm_lt1 (n := n) (fun q hq => h q (by omega)) (show p < n by omega) h1
      omega
theorem fc_next {n d c p : Nat} {g : Nat → Nat} (hc : c ≤ p) (hp : p < n) (hu : us g d p = false) : fc n g d (p + 1) + 1 ≤ fc n g d c := by
  refine sm_lt1 (p := p) (fun q _ => ?_) hp ?_
  · by_cases c1 : p + 1 ≤ q ∧ us g d q = false
    · rw [if_pos c1, if_pos ⟨by omega, c1.2⟩]; exact Nat.le_refl _
    · rw [if_neg c1]; exact Nat.zero_le _
  · rw [if_neg (fun z => by omega), if_pos ⟨hc, hu⟩]; exact Nat.le_refl _
theorem fc_0 {n d : Nat} {g : Nat → Nat} (h : IJ d n g) : fc n g d 0 + d = n := by
  have h1 := us_cnt d h
  have h2 : sm n (fun p => (if 0 ≤ p ∧ us g d p = false then 1 else 0) + if us g d p = true then 1 else 0) = sm n (fun _ => 1) := sm_cg (fun p _ => by
    cases us g d p <;> simp)
  rw [sm_add, h1] at h2
  have h3 : sm n (fun _ => 1) = n := by
    have := fun (k : Nat) => (show sm k (fun _ => 1) = k from by
      induction k with
      | zero => rfl
      | succ k ih => rw [sm_s, ih])
    exact this n
  rw [h3] at h2
  exact h2
theorem ptl_push {n d c p : Nat} {g : Nat → Nat} (h : IJ d n g) (hd : d < n) (hc : c ≤ p) (hp : p < n) (hu : us g d p = false) : ptl n (d + 1) 0 (pg g d p) < ptl n d c g := by
  have e1 : pt n (pg g d p) (d + 1) = pt n g d + lv n g d (p + 1) := by
    rw [pt_s, pg_s, pt_cg (g' := g) (fun e he => pg_l he), lv_cg (g' := g) (fun e he => pg_l he)]
  have e2 : (if d + 1 < n then lv n (pg g d p) (d + 1) 0 else 1) + 1 ≤ Wt (n - d - 1) := by
    by_cases c1 : d + 1 < n
    · rw [if_pos c1]
      have e3 := fc_0 (h.pg hp hu)
      obtain ⟨k, hk⟩ : ∃ k, n - d - 1 = k + 1 := ⟨n - d - 2, by omega⟩
      rw [hk, Wt_s]
      unfold lv
      rw [show fc n (pg g d p) (d + 1) 0 = k + 1 by omega, show n - (d + 1) - 1 = k by omega]
      omega
    · rw [if_neg c1, show n - d - 1 = 0 by omega]; exact Nat.le_refl _
  have e4 := fc_next hc hp hu
  have e5 : lv n g d (p + 1) + Wt (n - d - 1) ≤ lv n g d c := by
    unfold lv
    have := Nat.mul_le_mul_right (Wt (n - d - 1)) e4
    rw [Nat.add_mul, Nat.one_mul] at this
    omega
  unfold ptl
  rw [e1, if_pos hd]
  omega
theorem ptl_pop {n d c : Nat} {g : Nat → Nat} (hd : d + 1 ≤ n) : ptl n d (g d + 1) g < ptl n (d + 1) c g := by
  unfold ptl
  rw [if_pos (by omega), ← pt_s]
  by_cases c1 : d + 1 < n
  · rw [if_pos c1]; unfold lv; omega
  · rw [if_neg c1]; omega
theorem ptl_pos {n d c : Nat} {g : Nat → Nat} : 0 < ptl n d c g := by
  unfold ptl
  by_cases c1 : d < n
  · rw [if_pos c1]; unfold lv; omega
  · rw [if_neg c1]; omega
theorem ptl_0 {n : Nat} {g : Nat → Nat} (h1 : 1 ≤ n) (h7 : n ≤ 7) : ptl n 0 0 g ≤ 27399 := by
  unfold ptl lv
  rw [if_pos (by omega), show pt n g 0 = 0 from rfl]
  have e := fc_0 (n := n) (d := 0) (g := g) ⟨fun e he => by omega, fun e e' he => by omega⟩
  rw [Nat.add_zero] at e
  rw [e]
  have : n = 1 ∨ n = 2 ∨ n = 3 ∨ n = 4 ∨ n = 5 ∨ n = 6 ∨ n = 7 := by omega
  rcases this with rfl | rfl | rfl | rfl | rfl | rfl | rfl <;> decide
/-- f is not yet behind the place that the search has come to -/
def ahd (f : Nat → Nat) (d c : Nat) (g : Nat → Nat) : Prop := ((∀ e, e < d → f e = g e) ∧ c ≤ f d) ∨ ∃ e, e < d ∧ (∀ e', e' < e → f e' = g e') ∧ g e < f e
theorem ahd_0 {f g : Nat → Nat} : ahd f 0 0 g := Or.inl ⟨fun e he => by omega, Nat.zero_le _⟩
theorem ahd_push {f g : Nat → Nat} {d c p : Nat} (h : ahd f d c g) (hp : (∀ e, e < d → f e = g e) → c ≤ f d → p ≤ f d) : ahd f (d + 1) 0 (pg g d p) := by
  rcases h with ⟨a, b⟩ | ⟨e, a, b, c⟩
  · have q := hp a b
    by_cases c1 : f d = p
    · refine Or.inl ⟨fun e he => ?_, Nat.zero_le _⟩
      by_cases c2 : e = d
      · rw [c2, pg_s]; exact c1
      · rw [pg_n c2]; exact a e (by omega)
    · refine Or.inr ⟨d, by omega, fun e he => by rw [pg_l he]; exact a e he, by rw [pg_s]; omega⟩
  · exact Or.inr ⟨e, by omega, fun e' he => by rw [pg_l (by omega)]; exact b e' he, by rw [pg_l a]; exact c⟩
theorem ahd_pop {f g : Nat → Nat} {d c : Nat} (h : ahd f (d + 1) c g) (hn : ¬ ((∀ e, e < d + 1 → f e = g e) ∧ c ≤ f (d + 1))) : ahd f d (g d + 1) g := by
  rcases h with a | ⟨e, a, b, c⟩
  · exact absurd a hn
  · by_cases c1 : e = d
    · subst c1; exact Or.inl ⟨b, c⟩
    · exact Or.inr ⟨e, by omega, b, c⟩
theorem ahd_end {f g : Nat → Nat} {c : Nat} (h : ahd f 0 c g) (hn : ¬ ((∀ e, e < 0 → f e = g e) ∧ c ≤ f 0)) : False := by
  rcases h with a | ⟨e, a, b, c⟩
  · exact hn a
  · omega
