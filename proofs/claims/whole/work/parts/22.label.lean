/-! by hand: labels of persons: first of a kind, numbering as they come, numbers of partings (no machine here) -/
/-- the least y < n with P, else n -/
def ff (P : Nat → Bool) : Nat → Nat
  | 0 => 0
  | n + 1 => if ff P n < n then ff P n else if P n then n else n + 1
theorem ff_le (P : Nat → Bool) : ∀ n, ff P n ≤ n
  | 0 => Nat.le_refl _
  | n + 1 => by
    have := ff_le P n
    unfold ff
    split
    · omega
    · split <;> omega
theorem ff_sat (P : Nat → Bool) : ∀ n, ff P n < n → P (ff P n) = true
  | 0, h => absurd h (Nat.not_lt_zero _)
  | n + 1, h => by
    have h1 := ff_sat P n
    unfold ff at h ⊢
    split
    · rename_i z; exact h1 z
    · rename_i z
      rw [if_neg z] at h
      split
      · assumption
      · rename_i w; rw [if_neg w] at h; omega
theorem ff_min (P : Nat → Bool) : ∀ n y, y < ff P n → P y = false
  | 0, y, h => absurd h (Nat.not_lt_zero _)
  | n + 1, y, h => by
    have h1 := ff_min P n y
    have h2 := ff_le P n
    unfold ff at h
    split at h
    · exact h1 h
    · have h3 : ff P n = n := by omega
      rw [h3] at h1
      split at h
      · exact h1 h
      · rename_i w
        by_cases e : y = n
        · subst e; simpa using w
        · exact h1 (by omega)
theorem ff_hit {P : Nat → Bool} {n y : Nat} (hy : y < n) (h : P y = true) : ff P n ≤ y := by
  rcases Nat.lt_or_ge y (ff P n) with z | z
  · rw [ff_min P n y z] at h; cases h
  · exact z
theorem ff_eq {P : Nat → Bool} {n y : Nat} (hy : y < n) (h : P y = true) (hm : ∀ z, z < y → P z = false) : ff P n = y := by
  have h1 := ff_hit hy h
  rcases Nat.lt_or_ge (ff P n) y with z | z
  · have := ff_sat P n (by omega)
    rw [hm _ z] at this; cases this
  · omega
theorem ff_none {P : Nat → Bool} {n : Nat} (h : ∀ z, z < n → P z = false) : ff P n = n := by
  have h1 := ff_le P n
  rcases Nat.lt_or_ge (ff P n) n with z | z
  · have := ff_sat P n z
    rw [h _ z] at this; cases this
  · omega
theorem ff_cg {P Q : Nat → Bool} {n : Nat} (h : ∀ y, y < n → P y = Q y) : ff P n = ff Q n := by
  induction n with
  | zero => rfl
  | succ n ih =>
    unfold ff
    rw [ih (fun y hy => h y (by omega)), h n (by omega)]
/-- the first one ahead of x (or x) in a relation; the root -/
def fr (r : Nat → Nat → Bool) (x : Nat) : Nat := ff (fun y => r y x) x
theorem fr_le (r : Nat → Nat → Bool) (x : Nat) : fr r x ≤ x := ff_le _ _
def nwr (r : Nat → Nat → Bool) (x : Nat) : Nat := sm x (fun y => if fr r y = y then 1 else 0)
def lab (r : Nat → Nat → Bool) : Nat → Nat → Nat
  | 0, _ => 0
  | k + 1, x => if fr r x < x then lab r k (fr r x) else nwr r x
def rot (r : Nat → Nat → Bool) : Nat → Nat → Nat
  | 0, x => x
  | k + 1, x => if fr r x < x then rot r k (fr r x) else x
theorem lab_st (r : Nat → Nat → Bool) : ∀ k k' x, x < k → x < k' → lab r k x = lab r k' x
  | 0, _, _, h, _ => absurd h (Nat.not_lt_zero _)
  | _, 0, _, _, h => absurd h (Nat.not_lt_zero _)
  | k + 1, k' + 1, x, h, h' => by
    unfold lab
    split
    · exact lab_st r k k' _ (by omega) (by omega)
    · rfl
theorem rot_st (r : Nat → Nat → Bool) : ∀ k k' x, x < k → x < k' → rot r k x = rot r k' x
  | 0, _, _, h, _ => absurd h (Nat.not_lt_zero _)
  | _, 0, _, _, h => absurd h (Nat.not_lt_zero _)
  | k + 1, k' + 1, x, h, h' => by
    unfold rot
    split
    · exact rot_st r k k' _ (by omega) (by omega)
    · rfl
/-- the number of x's part -/
def lb (r : Nat → Nat → Bool) (x : Nat) : Nat := lab r (x + 1) x
def rt (r : Nat → Nat → Bool) (x : Nat) : Nat := rot r (x + 1) x
theorem lb_old {r : Nat → Nat → Bool} {x : Nat} (h : fr r x < x) : lb r x = lb r (fr r x) := by
  unfold lb
  rw [show lab r (x + 1) x = if fr r x < x then lab r x (fr r x) else nwr r x from rfl, if_pos h]
  exact lab_st r _ _ _ h (by omega)
theorem lb_new {r : Nat → Nat → Bool} {x : Nat} (h : ¬ fr r x < x) : lb r x = nwr r x := by
  unfold lb
  rw [show lab r (x + 1) x = if fr r x < x then lab r x (fr r x) else nwr r x from rfl, if_neg h]
theorem rt_old {r : Nat → Nat → Bool} {x : Nat} (h : fr r x < x) : rt r x = rt r (fr r x) := by
  unfold rt
  rw [show rot r (x + 1) x = if fr r x < x then rot r x (fr r x) else x from rfl, if_pos h]
  exact rot_st r _ _ _ h (by omega)
theorem rt_new {r : Nat → Nat → Bool} {x : Nat} (h : ¬ fr r x < x) : rt r x = x := by
  unfold rt
  rw [show rot r (x + 1) x = if fr r x < x then rot r x (fr r x) else x from rfl, if_neg h]
theorem rt_all (r : Nat → Nat → Bool) (x : Nat) : rt r x ≤ x ∧ rt r (rt r x) = rt r x ∧ fr r (rt r x) = rt r x ∧ lb r x = nwr r (rt r x) := by
  induction x using Nat.strongRecOn with
  | ind x ih =>
    by_cases h : fr r x < x
    · obtain ⟨h1, h2, h3, h4⟩ := ih _ h
      rw [rt_old h, lb_old h]
      exact ⟨by omega, h2, h3, h4⟩
    · have e := rt_new h
      have h1 := fr_le r x
      rw [e, lb_new h]
      exact ⟨Nat.le_refl _, e, by omega, rfl⟩
theorem rt_fix {r : Nat → Nat → Bool} {x : Nat} : rt r x = x ↔ fr r x = x := by
  constructor
  · intro h
    have := (rt_all r x).2.2.1
    rw [h] at this; exact this
  · intro h; exact rt_new (by omega)
/-! labels as they come -/
def eqr (p : Nat → Nat) : Nat → Nat → Bool := fun y x => p y == p x
def fs (p : Nat → Nat) (x : Nat) : Nat := ff (fun y => p y == p x) x
theorem fs_fr (p : Nat → Nat) (x : Nat) : fr (eqr p) x = fs p x := rfl
theorem fs_le (p : Nat → Nat) (x : Nat) : fs p x ≤ x := ff_le _ _
/-- the labels p, told as they come -/
def cn (p : Nat → Nat) (x : Nat) : Nat := lb (eqr p) x
theorem fs_eq (p : Nat → Nat) (x : Nat) : p (fs p x) = p x := by
  have h := fs_le p x
  rcases Nat.lt_or_ge (fs p x) x with z | z
  · have h2 := ff_sat (fun y => p y == p x) x z
    exact eq_of_beq h2
  · have : fs p x = x := by omega
    rw [this]
theorem fs_min {p : Nat → Nat} {x y : Nat} (h : p y = p x) (hy : y ≤ x) : fs p x ≤ y := by
  rcases Nat.lt_or_ge y x with z | z
  · exact ff_hit z (by simp [h])
  · have := fs_le p x
    omega
theorem fs_fs (p : Nat → Nat) (x : Nat) : fs p (fs p x) = fs p x := by
  have h1 := fs_le p (fs p x)
  have h2 := fs_le p x
  have h3 : p (fs p (fs p x)) = p x := by rw [fs_eq p (fs p x), fs_eq p x]
  have h4 := fs_min h3 (by omega)
  omega
theorem fs_same {p : Nat → Nat} {x y : Nat} (h : p x = p y) : fs p x = fs p y := by
  have key : ∀ x y, p x = p y → x ≤ y → fs p x = fs p y := by
    intro x y h hxy
    have a1 := fs_le p x
    have a2 := fs_le p y
    have b1 : fs p y ≤ fs p x := fs_min (by rw [fs_eq p x, h]) (by omega)
    have e : fs p y ≤ x := by omega
    have b2 : fs p x ≤ fs p y := fs_min (by rw [fs_eq p y, h]) e
    omega
  rcases Nat.le_total x y with z | z
  · exact key x y h z
  · exact (key y x h.symm z).symm
theorem rt_eqr (p : Nat → Nat) (x : Nat) : rt (eqr p) x = fs p x := by
  have h0 := fs_fr p x
  by_cases h : fr (eqr p) x < x
  · rw [rt_old h, h0]
    exact rt_fix.mpr ((fs_fr p (fs p x)).trans (fs_fs p x))
  · rw [rt_new h]
    have := fs_le p x
    omega
theorem cn_eq (p : Nat → Nat) (x : Nat) : cn p x = nwr (eqr p) (fs p x) := by
  unfold cn
  rw [(rt_all (eqr p) x).2.2.2, rt_eqr]
/-- only which are the same counts -/
theorem cn_cg {p p' : Nat → Nat} {n : Nat} (h : ∀ x y, x < n → y < n → (p x = p y ↔ p' x = p' y)) : ∀ x, x < n → cn p x = cn p' x := by
  have hf : ∀ x, x < n → fs p x = fs p' x := by
    intro x hx
    refine ff_cg fun y hy => ?_
    have := h y x (by omega) hx
    by_cases e : p y = p x
    · rw [beq_iff_eq.mpr e, beq_iff_eq.mpr (this.mp e)]
    · have e' : ¬ p' y = p' x := fun z => e (this.mpr z)
      rw [beq_eq_false_iff_ne.mpr e, beq_eq_false_iff_ne.mpr e']
  intro x hx
  rw [cn_eq, cn_eq, hf x hx]
  refine sm_cg fun y hy => ?_
  have := fs_le p' x
  have e := hf y (by omega)
  show (if fs p y = y then 1 else 0) = if fs p' y = y then 1 else 0
  rw [e]
/-- the roots' labels are told as the parts are -/
theorem cn_rt (r : Nat → Nat → Bool) (x : Nat) : cn (rt r) x = lb r x := by
  have hf : ∀ x, fs (rt r) x = rt r x := by
    intro x
    obtain ⟨h1, h2, -, -⟩ := rt_all r x
    have a1 := fs_min (p := rt r) (x := x) (y := rt r x) h2 h1
    have a2 := fs_eq (rt r) x
    have a3 := (rt_all r (fs (rt r) x)).1
    omega
  rw [cn_eq, hf, (rt_all r x).2.2.2]
  refine sm_cg fun y _ => ?_
  show (if fs (rt r) y = y then 1 else 0) = if fr r y = y then 1 else 0
  rw [hf y]
  by_cases h : fr r y = y
  · rw [if_pos h, if_pos (rt_fix.mpr h)]
  · rw [if_neg h, if_neg (fun z => h (rt_fix.mp z))]
/-! numbers of partings -/
def top (p : Nat → Nat) : Nat → Nat
  | 0 => 0
  | x + 1 => max (top p x) (p x + 1)
theorem top_s (p : Nat → Nat) (x : Nat) : top p (x + 1) = max (top p x) (p x + 1) := rfl
theorem top_gt {p : Nat → Nat} {n x : Nat} (h : x < n) : p x < top p n := by
  induction n with
  | zero => omega
  | succ n ih =>
    rw [top_s]
    by_cases e : x = n
    · subst e; omega
    · have := ih (by omega); omega
theorem top_le {p : Nat → Nat} {n b : Nat} (h : ∀ x, x < n → p x < b) : top p n ≤ b := by
  induction n with
  | zero => simp [top]
  | succ n ih =>
    rw [top_s]
    have h1 := ih (fun x hx => h x (by omega))
    have h2 := h n (by omega)
    omega
theorem top_cg {p p' : Nat → Nat} {n : Nat} (h : ∀ x, x < n → p x = p' x) : top p n = top p' n := by
  induction n with
  | zero => rfl
  | succ n ih =>
    rw [top_s, top_s, ih (fun x hx => h x (by omega)), h n (by omega)]
def RGS (n : Nat) (p : Nat → Nat) : Prop := ∀ x, x < n → p x ≤ top p x
theorem RGS.le {n : Nat} {p : Nat → Nat} (h : RGS n p) : ∀ x, x ≤ n → top p x ≤ x := by
  intro x
  induction x with
  | zero => intro _; exact Nat.le_refl _
  | succ x ih =>
    intro hx
    have h1 := ih (by omega)
    have h2 := h x (by omega)
    rw [top_s]
    omega
theorem RGS.lt {n : Nat} {p : Nat → Nat} (h : RGS n p) {x : Nat} (hx : x < n) : p x ≤ x := by
  have h1 := h x hx
  have h2 := h.le x (by omega)
  omega
theorem RGS.cg {n : Nat} {p p' : Nat → Nat} (h : RGS n p) (e : ∀ x, x < n → p x = p' x) : RGS n p' := by
  intro x hx
  rw [← e x hx, ← top_cg (fun y hy => e y (by omega))]
  exact h x hx
theorem lb_top (r : Nat → Nat → Bool) : ∀ n, top (lb r) n = nwr r n ∧ ∀ y, y < n → lb r y < nwr r n := by
  intro n
  induction n with
  | zero => exact ⟨rfl, fun y h => absurd h (Nat.not_lt_zero _)⟩
  | succ n ih =>
    obtain ⟨h1, h2⟩ := ih
    have e : nwr r (n + 1) = nwr r n + if fr r n = n then 1 else 0 := rfl
    by_cases h : fr r n < n
    · have h3 := h2 _ h
      have h4 := lb_old h
      have e2 : nwr r (n + 1) = nwr r n := by rw [e, if_neg (by omega)]; rfl
      refine ⟨?_, fun y hy => ?_⟩
      · rw [top_s, h1, h4, e2]; omega
      · rw [e2]
        by_cases z : y = n
        · subst z; omega
        · exact h2 y (by omega)
    · have h3 := fr_le r n
      have h4 := lb_new h
      have e2 : nwr r (n + 1) = nwr r n + 1 := by rw [e, if_pos (by omega)]
      refine ⟨?_, fun y hy => ?_⟩
      · rw [top_s, h1, h4, e2]; omega
      · rw [e2]
        by_cases z : y = n
        · subst z; omega
        · have := h2 y (by omega); omega
theorem lb_RGS (r : Nat → Nat → Bool) (n : Nat) : RGS n (lb r) := by
  intro x hx
  rw [(lb_top r x).1]
  by_cases h : fr r x < x
  · rw [lb_old h]; have := (lb_top r x).2 _ h; omega
  · rw [lb_new h]; exact Nat.le_refl _
/-- told as they come, they stay -/
theorem RGS_cn {n : Nat} {p : Nat → Nat} (h : RGS n p) : ∀ x, x < n → cn p x = p x := by
  have key : ∀ x, x ≤ n → nwr (eqr p) x = top p x ∧ ∀ v, v < top p x → ∃ y, y < x ∧ p y = v := by
    intro x
    induction x with
    | zero => intro _; exact ⟨rfl, fun v hv => absurd hv (Nat.not_lt_zero _)⟩
    | succ x ih =>
      intro hx
      obtain ⟨h1, h2⟩ := ih (by omega)
      have h3 := h x (by omega)
      have e : nwr (eqr p) (x + 1) = nwr (eqr p) x + if fs p x = x then 1 else 0 := rfl
      by_cases hn : p x < top p x
      · obtain ⟨y, hy, hv⟩ := h2 _ hn
        have h4 := fs_min hv (by omega)
        refine ⟨?_, fun v hv' => ?_⟩
        · rw [e, if_neg (by omega), h1, top_s]; omega
        · have : top p (x + 1) = top p x := by rw [top_s]; omega
          rw [this] at hv'
          obtain ⟨z, hz, hz'⟩ := h2 v hv'
          exact ⟨z, by omega, hz'⟩
      · have h5 : fs p x = x := by
          have a := fs_le p x
          rcases Nat.lt_or_ge (fs p x) x with z | z
          · have b := fs_eq p x
            have c := top_gt (p := p) z
            omega
          · omega
        have e2 : top p (x + 1) = top p x + 1 := by rw [top_s]; omega
        refine ⟨by rw [e, if_pos h5, h1, e2], fun v hv' => ?_⟩
        rw [e2] at hv'
        by_cases z : v = top p x
        · exact ⟨x, by omega, by omega⟩
        · obtain ⟨y, hy, hy'⟩ := h2 v (by omega)
          exact ⟨y, by omega, hy'⟩
  intro x hx
  have a := fs_le p x
  rw [cn_eq, (key _ (by omega)).1]
  have b := fs_eq p x
  have c := h (fs p x) (by omega)
  have d := fs_fs p x
  rcases Nat.lt_or_ge (p (fs p x)) (top p (fs p x)) with z | z
  · obtain ⟨y, hy, hv⟩ := (key (fs p x) (by omega)).2 _ z
    have := fs_min (p := p) (x := fs p x) hv (by omega)
    omega
  · omega
theorem RGS_nw {n : Nat} {p : Nat → Nat} (h : RGS n p) : nwr (eqr p) n = top p n := by
  have e : top (cn p) n = nwr (eqr p) n := (lb_top (eqr p) n).1
  rw [← e]
  exact top_cg (RGS_cn h)
/-- a parting that splits another one has as many parts only if it is the same -/
theorem finer {n : Nat} {p p' : Nat → Nat} (h : RGS n p) (h' : RGS n p') (hf : ∀ x y, x < n → y < n → p' x = p' y → p x = p y) :
    top p n ≤ top p' n ∧ (top p n = top p' n → ∀ x, x < n → p x = p' x) := by
  have hnew : ∀ y, y < n → fs p y = y → fs p' y = y := by
    intro y hy e
    have a := fs_le p' y
    have b := hf _ _ (by omega) hy (fs_eq p' y)
    have c := fs_min (p := p) b a
    omega
  have hle : ∀ y, y < n → (if fs p y = y then 1 else 0) ≤ (if fs p' y = y then 1 else 0) := by
    intro y hy
    by_cases e : fs p y = y
    · rw [if_pos e, if_pos (hnew y hy e)]; exact Nat.le_refl _
    · rw [if_neg e]; exact Nat.zero_le _
  rw [← RGS_nw h, ← RGS_nw h']
  refine ⟨sm_mono hle, fun he => ?_⟩
  have hall : ∀ m, m ≤ n → sm m (fun y => if fs p y = y then 1 else 0) = sm m (fun y => if fs p' y = y then 1 else 0) → ∀ y, y < m → (fs p' y = y → fs p y = y) := by
    intro m
    induction m with
    | zero => intro _ _ y hy; omega
    | succ m ih =>
      intro hm hs y hy e
      simp only [sm] at hs
      have a := sm_mono (n := m) (f := fun y => if fs p y = y then 1 else 0) (g := fun y => if fs p' y = y then 1 else 0) (fun x hx => hle x (by omega))
      have b := hle m (by omega)
      have c1 : sm m (fun y => if fs p y = y then 1 else 0) = sm m (fun y => if fs p' y = y then 1 else 0) := by omega
      by_cases z : y = m
      · subst z
        rw [if_pos e] at hs
        by_cases w : fs p y = y
        · exact w
        · rw [if_neg w] at hs; omega
      · exact ih (by omega) c1 y (by omega) e
  have hb := hall n (Nat.le_refl _) he
  have hfs : ∀ x, x < n → fs p x = fs p' x := by
    intro x hx
    have a1 := fs_le p x
    have a2 := fs_le p' x
    have c1 : fs p (fs p' x) = fs p' x := hb _ (by omega) (fs_fs p' x)
    have c2 : p (fs p' x) = p x := hf _ _ (by omega) hx (fs_eq p' x)
    rw [← c1]
    exact fs_same c2.symm
  intro x hx
  rw [← RGS_cn h x hx, ← RGS_cn h' x hx, cn_eq, cn_eq, hfs x hx]
  refine sm_cg fun y hy => ?_
  have a2 := fs_le p' x
  show (if fs p y = y then 1 else 0) = if fs p' y = y then 1 else 0
  rw [hfs y (by omega)]
def num (p : Nat → Nat) : Nat → Nat
  | 0 => 0
  | x + 1 => num p x * 10 + p x
theorem num_s (p : Nat → Nat) (x : Nat) : num p (x + 1) = num p x * 10 + p x := rfl
theorem num_cg {p p' : Nat → Nat} {n : Nat} (h : ∀ x, x < n → p x = p' x) : num p n = num p' n := by
  induction n with
  | zero => rfl
  | succ n ih =>
    rw [num_s, num_s, ih (fun x hx => h x (by omega)), h n (by omega)]
theorem num_lt {p : Nat → Nat} {n : Nat} (h : ∀ x, x < n → p x < 10) : num p n < 10 ^ n := by
  induction n with
  | zero => simp [num]
  | succ n ih =>
    rw [num_s]
    have h1 := ih (fun x hx => h x (by omega))
    have h2 := h n (by omega)
    rw [Nat.pow_succ]
    omega
/-- the digit of person x in a number of n digits -/
def dg (n m x : Nat) : Nat := m / 10 ^ (n - 1 - x) % 10
theorem dg_lt (n m x : Nat) : dg n m x < 10 := Nat.mod_lt _ (by omega)
theorem dg_last (n m : Nat) : dg (n + 1) m n = m % 10 := by
  unfold dg
  rw [show n + 1 - 1 - n = 0 by omega]; simp
theorem dg_ahead {n m x : Nat} (h : x < n) : dg (n + 1) m x = dg n (m / 10) x := by
  unfold dg
  rw [show n + 1 - 1 - x = (n - 1 - x) + 1 by omega, Nat.pow_succ, Nat.mul_comm, Nat.div_div_eq_div_mul]
theorem dg_num {p : Nat → Nat} : ∀ {n : Nat}, (∀ x, x < n → p x < 10) → ∀ x, x < n → dg n (num p n) x = p x
  | 0, _, x, hx => absurd hx (Nat.not_lt_zero _)
  | n + 1, h, x, hx => by
    have h2 := h n (by omega)
    by_cases e : x = n
    · subst e
      rw [dg_last, num_s]; omega
    · rw [dg_ahead (by omega)]
      have : num p (n + 1) / 10 = num p n := by rw [num_s]; omega
      rw [this]
      exact dg_num (fun y hy => h y (by omega)) x (by omega)
theorem num_dg : ∀ {n m : Nat}, m < 10 ^ n → num (dg n m) n = m
  | 0, m, h => by simp at h; subst h; rfl
  | n + 1, m, h => by
    rw [Nat.pow_succ] at h
    rw [num_s, dg_last, num_cg (fun x hx => dg_ahead (n := n) (m := m) hx), num_dg (by omega)]
    omega
theorem num_inj {p p' : Nat → Nat} {n : Nat} (h : ∀ x, x < n → p x < 10) (h' : ∀ x, x < n → p' x < 10) (e : num p n = num p' n) : ∀ x, x < n → p x = p' x := by
  intro x hx
  rw [← dg_num h x hx, ← dg_num h' x hx, e]
