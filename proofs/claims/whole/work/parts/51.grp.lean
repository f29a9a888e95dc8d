/-! by hand: renamings as a group; turns -/
def exB (n : Nat) (P : Nat → Bool) : Bool := !(al n (fun x => !P x))
theorem exB_iff {n : Nat} {P : Nat → Bool} : exB n P = true ↔ ∃ x, x < n ∧ P x = true := by
  unfold exB
  constructor
  · intro h
    rcases hb : al n (fun x => !P x) with _ | _
    · by_cases c : ∃ x, x < n ∧ P x = true
      · exact c
      · have : al n (fun x => !P x) = true := al_iff.mpr (fun x hx => by
          rcases hp : P x with _ | _
          · rfl
          · exact absurd ⟨x, hx, hp⟩ c)
        rw [hb] at this; cases this
    · rw [hb] at h; cases h
  · rintro ⟨x, hx, hp⟩
    rw [al_f hx (by rw [hp]; rfl)]; rfl
theorem exB_cg {P Q : Nat → Bool} {n : Nat} (h : ∀ x, x < n → P x = Q x) : exB n P = exB n Q := by
  unfold exB
  rw [al_cg (fun x hx => by rw [h x hx])]
/-- the value p stands among the first d -/
def us (g : Nat → Nat) (d p : Nat) : Bool := exB d (fun e => g e == p)
theorem us_iff {g : Nat → Nat} {d p : Nat} : us g d p = true ↔ ∃ e, e < d ∧ g e = p := by
  unfold us
  rw [exB_iff]
  constructor
  · rintro ⟨e, h1, h2⟩; exact ⟨e, h1, beq_iff_eq.mp h2⟩
  · rintro ⟨e, h1, h2⟩; exact ⟨e, h1, beq_iff_eq.mpr h2⟩
theorem us_s {g : Nat → Nat} {d p : Nat} : us g (d + 1) p = true ↔ us g d p = true ∨ g d = p := by
  rw [us_iff, us_iff]
  constructor
  · rintro ⟨e, h1, h2⟩
    by_cases c : e = d
    · subst c; exact Or.inr h2
    · exact Or.inl ⟨e, by omega, h2⟩
  · rintro (⟨e, h1, h2⟩ | h)
    · exact ⟨e, by omega, h2⟩
    · exact ⟨d, by omega, h⟩
theorem us_cg {g g' : Nat → Nat} {d p : Nat} (h : ∀ e, e < d → g e = g' e) : us g d p = us g' d p := exB_cg (fun e he => by rw [h e he])
theorem us_0 {g : Nat → Nat} {p : Nat} : us g 0 p = false := rfl
def IJ (d n : Nat) (g : Nat → Nat) : Prop := (∀ e, e < d → g e < n) ∧ ∀ e e', e < d → e' < d → g e = g e' → e = e'
theorem IJ.le {d d' n : Nat} {g : Nat → Nat} (h : IJ d n g) (hd : d' ≤ d) : IJ d' n g := ⟨fun e he => h.1 e (by omega), fun e e' he he' z => h.2 e e' (by omega) (by omega) z⟩
theorem IJ.fr {d n : Nat} {g : Nat → Nat} (h : IJ (d + 1) n g) : us g d (g d) = false := b_f (fun z => by
  obtain ⟨e, he, q⟩ := us_iff.mp z
  have := h.2 e d (by omega) (by omega) q
  omega)
theorem Pm.inj {n : Nat} {f : Nat → Nat} (h : Pm n f) : IJ n n f := h
theorem us_cnt {n : Nat} {g : Nat → Nat} : ∀ d, IJ d n g → sm n (fun p => if us g d p = true then 1 else 0) = d := by
  intro d
  induction d with
  | zero =>
    intro _
    exact (sm_cg (g := fun _ => 0) (fun p _ => by rw [us_0]; rfl)).trans sm_0
  | succ d ih =>
    intro h
    rw [sm_cg (g := fun p => (if us g d p = true then 1 else 0) + if g d = p then 1 else 0) (fun p _ => ?_), sm_add, ih (h.le (by omega)), sm_one (f := fun _ => 1) (h.1 d (by omega))]
    by_cases c : g d = p
    · rw [if_pos (us_s.mpr (Or.inr c)), if_pos c, ← c, h.fr]; rfl
    · rw [if_neg c, Nat.add_zero]
      by_cases c2 : us g d p = true
      · rw [if_pos c2, if_pos (us_s.mpr (Or.inl c2))]
      · rw [if_neg c2, if_neg (fun z => by rcases us_s.mp z with q | q; exact c2 q; exact c q)]
theorem sm_full {f : Nat → Nat} : ∀ {n : Nat}, (∀ p, p < n → f p ≤ 1) → sm n f = n → ∀ p, p < n → f p = 1 := by
  intro n
  induction n with
  | zero => intro _ _ p hp; omega
  | succ n ih =>
    intro h e p hp
    rw [sm_s] at e
    have h1 := h n (by omega)
    have h2 := sm_le (b := 1) (n := n) (f := f) (fun p hp => h p (by omega))
    by_cases c : p = n
    · subst c; omega
    · exact ih (fun p hp => h p (by omega)) (by omega) p (by omega)
theorem Pm.sur {n : Nat} {f : Nat → Nat} (h : Pm n f) : ∀ y, y < n → ∃ x, x < n ∧ f x = y := fun y hy => by
  have e := sm_full (f := fun p => if us f n p = true then 1 else 0) (n := n) (fun p _ => by split <;> omega) (us_cnt n h) y hy
  by_cases c : us f n y = true
  · exact us_iff.mp c
  · rw [if_neg c] at e; omega
def ivp (n : Nat) (f : Nat → Nat) (y : Nat) : Nat := ff (fun x => f x == y) n
theorem ivp_r {n : Nat} {f : Nat → Nat} (h : Pm n f) {y : Nat} (hy : y < n) : ivp n f y < n ∧ f (ivp n f y) = y := by
  obtain ⟨x, hx, e⟩ := h.sur y hy
  have h1 : ivp n f y ≤ x := ff_hit hx (by rw [e]; exact beq_self_eq_true _)
  have h2 : ivp n f y < n := by omega
  exact ⟨h2, beq_iff_eq.mp (ff_sat (fun x => f x == y) n h2)⟩
theorem ivp_l {n : Nat} {f : Nat → Nat} (h : Pm n f) {x : Nat} (hx : x < n) : ivp n f (f x) = x := by
  obtain ⟨h1, h2⟩ := ivp_r h (h.1 x hx)
  exact h.2 _ _ h1 hx h2
theorem Pm.inv {n : Nat} {f : Nat → Nat} (h : Pm n f) : Pm n (ivp n f) := ⟨fun x hx => (ivp_r h hx).1, fun x y hx hy e => by
  have h1 := (ivp_r h hx).2
  have h2 := (ivp_r h hy).2
  rw [← h1, ← h2, e]⟩
theorem Pm.cmp {n : Nat} {f g : Nat → Nat} (h : Pm n f) (h' : Pm n g) : Pm n (fun x => f (g x)) := ⟨fun x hx => h.1 _ (h'.1 x hx), fun x y hx hy e => h'.2 x y hx hy (h.2 _ _ (h'.1 x hx) (h'.1 y hy) e)⟩
theorem Pm.id (n : Nat) : Pm n (fun x => x) := ⟨fun _ h => h, fun _ _ _ _ e => e⟩
/-! turns -/
def trnZ (S : Nat → Nat) (f : Nat → Nat) (x z : Nat) : Bool := al 3 (fun k => sg S k x z == sg S k (f x) (f z))
def trnX (S ma : Nat → Nat) (n : Nat) (f : Nat → Nat) (x : Nat) : Bool := ma x == ma (f x) && al n (trnZ S f x)
def trnB (S ma : Nat → Nat) (n : Nat) (f : Nat → Nat) : Bool := al n (trnX S ma n f)
theorem trnB_iff {S ma : Nat → Nat} {n : Nat} {f : Nat → Nat} : trnB S ma n f = true ↔ ∀ x, x < n → ma x = ma (f x) ∧ ∀ z, z < n → ∀ k, k < 3 → sg S k x z = sg S k (f x) (f z) := by
  unfold trnB
  rw [al_iff]
  constructor
  · intro h x hx
    have h1 := h x hx
    unfold trnX at h1
    rw [Bool.and_eq_true, beq_iff_eq, al_iff] at h1
    refine ⟨h1.1, fun z hz k hk => ?_⟩
    have h2 := h1.2 z hz
    unfold trnZ at h2
    exact beq_iff_eq.mp (al_iff.mp h2 k hk)
  · intro h x hx
    unfold trnX
    rw [Bool.and_eq_true, beq_iff_eq, al_iff]
    refine ⟨(h x hx).1, fun z hz => al_iff.mpr (fun k hk => beq_iff_eq.mpr ((h x hx).2 z hz k hk))⟩
theorem trn_cg {S ma : Nat → Nat} {n : Nat} {f g : Nat → Nat} (e : ∀ x, x < n → f x = g x) (h : trnB S ma n f = true) : trnB S ma n g = true := by
  rw [trnB_iff] at h ⊢
  intro x hx
  rw [← e x hx]
  exact ⟨(h x hx).1, fun z hz k hk => by rw [← e z hz]; exact (h x hx).2 z hz k hk⟩
theorem trn_cmp {S ma : Nat → Nat} {n : Nat} {f g : Nat → Nat} (hg : ∀ x, x < n → g x < n) (h : trnB S ma n f = true) (h' : trnB S ma n g = true) : trnB S ma n (fun x => f (g x)) = true := by
  rw [trnB_iff] at h h' ⊢
  intro x hx
  exact ⟨(h' x hx).1.trans (h _ (hg x hx)).1, fun z hz k hk => ((h' x hx).2 z hz k hk).trans ((h _ (hg x hx)).2 _ (hg z hz) k hk)⟩
theorem trn_inv {S ma : Nat → Nat} {n : Nat} {f : Nat → Nat} (hp : Pm n f) (h : trnB S ma n f = true) : trnB S ma n (ivp n f) = true := by
  rw [trnB_iff] at h ⊢
  intro x hx
  obtain ⟨a1, a2⟩ := ivp_r hp hx
  have h1 := h _ a1
  rw [a2] at h1
  refine ⟨h1.1.symm, fun z hz k hk => ?_⟩
  obtain ⟨b1, b2⟩ := ivp_r hp hz
  have h2 := h1.2 _ b1 k hk
  rw [b2] at h2
  exact h2.symm
/-- some turn brings x to y -/
def mvB (S ma : Nat → Nat) (n x y : Nat) : Bool := (PL n).any (fun m => trnB S ma n (dg n m) && dg n m x == y)
theorem mvB_iff {S ma : Nat → Nat} {n x y : Nat} (h7 : n ≤ 7) (hx : x < n) : mvB S ma n x y = true ↔ ∃ f, Pm n f ∧ trnB S ma n f = true ∧ f x = y := by
  unfold mvB
  rw [List.any_eq_true]
  constructor
  · rintro ⟨m, hm, h⟩
    rw [Bool.and_eq_true, beq_iff_eq] at h
    exact ⟨dg n m, (PL_inv h7 hm).1, h.1, h.2⟩
  · rintro ⟨f, hf, ht, e⟩
    have hd := hf.dgn h7
    refine ⟨num f n, PL_mem hf, ?_⟩
    rw [Bool.and_eq_true, beq_iff_eq, hd x hx]
    exact ⟨trn_cg (fun x hx => (hd x hx).symm) ht, e⟩
theorem mv_refl {S ma : Nat → Nat} {n x : Nat} (h7 : n ≤ 7) (hx : x < n) : mvB S ma n x x = true := (mvB_iff h7 hx).mpr ⟨fun x => x, Pm.id n, trnB_iff.mpr (fun _ _ => ⟨rfl, fun _ _ _ _ => rfl⟩), rfl⟩
theorem mv_symm {S ma : Nat → Nat} {n x y : Nat} (h7 : n ≤ 7) (hx : x < n) (hy : y < n) (h : mvB S ma n x y = true) : mvB S ma n y x = true := by
  obtain ⟨f, hf, ht, e⟩ := (mvB_iff h7 hx).mp h
  exact (mvB_iff h7 hy).mpr ⟨ivp n f, hf.inv, trn_inv hf ht, by rw [← e]; exact ivp_l hf hx⟩
theorem mv_trans {S ma : Nat → Nat} {n x y z : Nat} (h7 : n ≤ 7) (hx : x < n) (hy : y < n) (h : mvB S ma n x y = true) (h' : mvB S ma n y z = true) : mvB S ma n x z = true := by
  obtain ⟨f, hf, ht, e⟩ := (mvB_iff h7 hx).mp h
  obtain ⟨g, hg, ht', e'⟩ := (mvB_iff h7 hy).mp h'
  exact (mvB_iff h7 hx).mpr ⟨fun x => g (f x), hg.cmp hf, trn_cmp (fun x hx => hf.1 x hx) ht' ht, by show g (f x) = z; rw [e, e']⟩
theorem fr_sat {r : Nat → Nat → Bool} {x : Nat} (h : fr r x < x) : r (fr r x) x = true := ff_sat (fun y => r y x) x h
theorem fr_hit {r : Nat → Nat → Bool} {x y : Nat} (hy : y < x) (h : r y x = true) : fr r x ≤ y := ff_hit hy h
theorem rt_eqv {r : Nat → Nat → Bool} {n : Nat} (ht : ∀ a b c, a < n → b < n → c < n → r a b = true → r b c = true → r a c = true) : ∀ x, x < n → rt r x = fr r x := fun x hx => by
  by_cases c : fr r x < x
  · rw [rt_old c, rt_new]
    intro c2
    have s3 := ht _ _ _ (by omega) (by omega) hx (fr_sat c2) (fr_sat c)
    have := fr_hit (by omega) s3
    omega
  · rw [rt_new c]
    have := fr_le r x
    omega
theorem mv_rt {S ma : Nat → Nat} {n : Nat} (h7 : n ≤ 7) : ∀ x, x < n → rt (fun y x => mvB S ma n y x) x = fr (fun y x => mvB S ma n y x) x :=
  rt_eqv (fun _ _ _ ha hb _ h1 h2 => mv_trans h7 ha hb h1 h2)
