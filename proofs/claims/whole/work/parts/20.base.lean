/-! by hand: loops, numbers, memory -/
theorem LOOP_inv {σ β : Type} {F : (σ → Option β) → σ → Option β} (I : Nat → σ → Prop) (Q : Option β → Prop)
    (step : ∀ d s ag, I d s → (∀ d' s', d' < d → I d' s' → Q (ag s')) → Q (F ag s)) : ∀ fuel d s, d < fuel → I d s → Q (LOOP F fuel s) := by
  intro fuel
  induction fuel with
  | zero => intro d s h; omega
  | succ n ih =>
    intro d s h hI
    exact step d s _ hI (fun d' s' hd hI' => ih d' s' (by omega) hI')
theorem LOOP_succ {σ β : Type} {F : (σ → Option β) → σ → Option β} (n : Nat) (s : σ) : LOOP F (n + 1) s = F (LOOP F n) s := rfl
/-- a loop that counts up: states enc x t, x ≤ n -/
theorem LOOP_up {σ τ β : Type} {F : (σ → Option β) → σ → Option β} (enc : Nat → τ → σ) (n : Nat) (hn : n < 4000000) (J : Nat → τ → Prop) (Q : Option β → Prop)
    (step : ∀ x t ag, x < n → J x t → (∀ t', J (x + 1) t' → Q (ag (enc (x + 1) t'))) → Q (F ag (enc x t)))
    (exit : ∀ t ag, J n t → Q (F ag (enc n t))) (x : Nat) (t : τ) (hx : x ≤ n) (hJ : J x t) : Q (LOOP F FU (enc x t)) := by
  refine LOOP_inv (fun d s => ∃ x t, x ≤ n ∧ d = n - x ∧ J x t ∧ s = enc x t) Q ?_ FU (n - x) _ (by unfold FU; omega) ⟨x, t, hx, rfl, hJ, rfl⟩
  rintro d s ag ⟨x, t, hx, rfl, hJ, rfl⟩ ih
  rcases Nat.lt_or_ge x n with h | h
  · exact step x t ag h hJ (fun t' hJ' => ih (n - (x + 1)) _ (by omega) ⟨x + 1, t', by omega, rfl, hJ', rfl⟩)
  · have : x = n := by omega
    subst this
    exact exit t ag hJ
/-- the same, all of the state known -/
theorem LOOP_fun {σ β : Type} {F : (σ → Option β) → σ → Option β} (e : Nat → σ) (n : Nat) (hn : n < 4000000) (R : Nat → Option β)
    (step : ∀ x ag, x < n → ag (e (x + 1)) = R (x + 1) → F ag (e x) = R x) (exit : ∀ ag, F ag (e n) = R n) (x : Nat) (hx : x ≤ n) : LOOP F FU (e x) = R x := by
  have key : ∀ d fuel x, x ≤ n → n - x = d → d < fuel → LOOP F fuel (e x) = R x := by
    intro d
    induction d with
    | zero =>
      intro fuel x hx hd hf
      have : x = n := by omega
      subst this
      cases fuel with
      | zero => omega
      | succ f => exact exit _
    | succ d ih =>
      intro fuel x hx hd hf
      cases fuel with
      | zero => omega
      | succ f => exact step x _ (by omega) (ih f (x + 1) (by omega) (by omega) (by omega))
  exact key (n - x) FU x hx rfl (by unfold FU; omega)
/-- a loop that counts down to below 0: states enc x t for x ≥ 0 persons left -/
theorem LOOP_down {σ τ β : Type} {F : (σ → Option β) → σ → Option β} (enc : Nat → τ → σ) (J : Nat → τ → Prop) (Q : Option β → Prop)
    (step : ∀ x t ag, J (x + 1) t → (∀ t', J x t' → Q (ag (enc x t'))) → Q (F ag (enc (x + 1) t)))
    (exit : ∀ t ag, J 0 t → Q (F ag (enc 0 t))) (x : Nat) (t : τ) (hx : x < 4000000) (hJ : J x t) : Q (LOOP F FU (enc x t)) := by
  refine LOOP_inv (fun d s => ∃ t, J d t ∧ s = enc d t) Q ?_ FU x _ (by unfold FU; omega) ⟨t, hJ, rfl⟩
  rintro d s ag ⟨t, hJ, rfl⟩ ih
  cases d with
  | zero => exact exit t ag hJ
  | succ d => exact step d t ag hJ (fun t' hJ' => ih d _ (by omega) ⟨t', hJ', rfl⟩)
/-- two parts of the state known apart -/
theorem LOOP_up2 {σ α τ β : Type} {F : (σ → Option β) → σ → Option β} (enc : Nat → α → τ → σ) (n : Nat) (hn : n < 4000000) (J : Nat → α → τ → Prop) (Q : Option β → Prop)
    (step : ∀ x a t ag, x < n → J x a t → (∀ a' t', J (x + 1) a' t' → Q (ag (enc (x + 1) a' t'))) → Q (F ag (enc x a t)))
    (exit : ∀ a t ag, J n a t → Q (F ag (enc n a t))) (x : Nat) (a : α) (t : τ) (hx : x ≤ n) (hJ : J x a t) : Q (LOOP F FU (enc x a t)) :=
  LOOP_up (τ := α × τ) (fun x t => enc x t.1 t.2) n hn (fun x t => J x t.1 t.2) Q (fun x t ag h1 h2 ih => step x t.1 t.2 ag h1 h2 (fun a' t' h => ih (a', t') h)) (fun t ag h => exit t.1 t.2 ag h) x (a, t) hx hJ
theorem LOOP_up3 {σ α γ τ β : Type} {F : (σ → Option β) → σ → Option β} (enc : Nat → α → γ → τ → σ) (n : Nat) (hn : n < 4000000) (J : Nat → α → γ → τ → Prop) (Q : Option β → Prop)
    (step : ∀ x a c t ag, x < n → J x a c t → (∀ a' c' t', J (x + 1) a' c' t' → Q (ag (enc (x + 1) a' c' t'))) → Q (F ag (enc x a c t)))
    (exit : ∀ a c t ag, J n a c t → Q (F ag (enc n a c t))) (x : Nat) (a : α) (c : γ) (t : τ) (hx : x ≤ n) (hJ : J x a c t) : Q (LOOP F FU (enc x a c t)) :=
  LOOP_up (τ := α × γ × τ) (fun x t => enc x t.1 t.2.1 t.2.2) n hn (fun x t => J x t.1 t.2.1 t.2.2) Q (fun x t ag h1 h2 ih => step x t.1 t.2.1 t.2.2 ag h1 h2 (fun a' c' t' h => ih (a', c', t') h)) (fun t ag h => exit t.1 t.2.1 t.2.2 ag h) x (a, c, t) hx hJ
theorem LOOP_down2 {σ α τ β : Type} {F : (σ → Option β) → σ → Option β} (enc : Nat → α → τ → σ) (J : Nat → α → τ → Prop) (Q : Option β → Prop)
    (step : ∀ x a t ag, J (x + 1) a t → (∀ a' t', J x a' t' → Q (ag (enc x a' t'))) → Q (F ag (enc (x + 1) a t)))
    (exit : ∀ a t ag, J 0 a t → Q (F ag (enc 0 a t))) (x : Nat) (a : α) (t : τ) (hx : x < 4000000) (hJ : J x a t) : Q (LOOP F FU (enc x a t)) :=
  LOOP_down (τ := α × τ) (fun x t => enc x t.1 t.2) (fun x t => J x t.1 t.2) Q (fun x t ag h2 ih => step x t.1 t.2 ag h2 (fun a' t' h => ih (a', t') h)) (fun t ag h => exit t.1 t.2 ag h) x (a, t) hx hJ
theorem i32lit (n : Nat) : (no_index (OfNat.ofNat n) : Int32) = nI n := by
  induction (0 : Nat) with
  | zero => rfl
  | succ _ ih => exact ih
theorem inb_nI {j N : Nat} (h : j < 2 ^ 31) : inb (nI j) N ↔ j < N := by
  unfold inb
  rw [nI_clamp h]
  constructor
  · intro q
    rcases Nat.lt_or_ge j N with z | z
    · exact z
    · exact absurd (Or.inr z) q
  · rintro q (z | z)
    · exact nI_pos h z
    · omega
theorem rd_nI {M : Mem} {k j : Nat} (h : j < 2 ^ 31) : rd M k (nI j) = M k j := by unfold rd; rw [nI_clamp h]
theorem wr_nI {M : Mem} {k j : Nat} {v : Int32} (h : j < 2 ^ 31) : wr M k (nI j) v = st2 M k j v := by unfold wr; rw [nI_clamp h]
theorem nI_neg_iff {n : Nat} (h : n < 2 ^ 31) : (nI n < 0) ↔ False := ⟨fun q => nI_pos h q, False.elim⟩
theorem nI_nn_iff {n : Nat} (h : n < 2 ^ 31) : (0 ≤ nI n) ↔ True := ⟨fun _ => trivial, fun _ => nI_pos' h⟩

/-! programs that end: wp -/
def wp {β : Type} (o : Option β) (Q : β → Prop) : Prop := ∃ r, o = some r ∧ Q r
theorem wp_some {β : Type} {r : β} {Q : β → Prop} (h : Q r) : wp (some r) Q := ⟨r, rfl, h⟩
theorem wp_eq {β : Type} {o : Option β} {r : β} {Q : β → Prop} (h : o = some r) (hq : Q r) : wp o Q := ⟨r, h, hq⟩
theorem wp_bind {α β : Type} {o : Option α} {f : α → Option β} {P : α → Prop} {Q : β → Prop} (h : wp o P) (k : ∀ r, P r → wp (f r) Q) : wp (Option.bind o f) Q := by
  obtain ⟨r, rfl, hp⟩ := h
  exact k r hp
theorem wp_bnd2 {β : Type} {o : Option (Int32 × Mem)} {f : Int32 → Mem → Option β} {P : Int32 × Mem → Prop} {Q : β → Prop} (h : wp o P) (k : ∀ r M, P (r, M) → wp (f r M) Q) : wp (bnd2 o f) Q := by
  obtain ⟨r, rfl, hp⟩ := h
  exact k r.1 r.2 hp
theorem wp_nm {α β : Type} {e : α} {f : α → Option β} {Q : β → Prop} (h : wp (f e) Q) : wp (nm e f) Q := h
theorem wp_jp {κ β : Type} {e : κ} {f : κ → Option β} {Q : β → Prop} (h : wp (f e) Q) : wp (jp e f) Q := h
theorem wp_mono {β : Type} {o : Option β} {P Q : β → Prop} (h : wp o P) (k : ∀ r, P r → Q r) : wp o Q := by
  obtain ⟨r, e, hp⟩ := h
  exact ⟨r, e, k r hp⟩
theorem wp_ite {β : Type} {c : Prop} [Decidable c] {a b : Option β} {Q : β → Prop} (ht : c → wp a Q) (hf : ¬ c → wp b Q) : wp (if c then a else b) Q := by
  by_cases h : c
  · rw [if_pos h]; exact ht h
  · rw [if_neg h]; exact hf h
theorem bind_s {α β : Type} (a : α) (f : α → Option β) : Option.bind (some a) f = f a := by
  induction (0 : Nat) with
  | zero => rfl
  | succ _ ih => exact ih
theorem bnd2_s {β : Type} (r : Int32) (M : Mem) (f : Int32 → Mem → Option β) : bnd2 (some (r, M)) f = f r M := by
  induction (0 : Nat) with
  | zero => rfl
  | succ _ ih => exact ih
theorem nm_e' {α β : Type} (e : α) (f : α → Option β) : nm e f = f e := by
  induction (0 : Nat) with
  | zero => rfl
  | succ _ ih => exact ih
theorem jp_e {κ β : Type} (e : κ) (f : κ → Option β) : jp e f = f e := by
  induction (0 : Nat) with
  | zero => rfl
  | succ _ ih => exact ih
/-! conditions as 0, 1 -/
def cI (p : Prop) [Decidable p] : Int32 := if p then 1 else 0
theorem cI_t {p : Prop} [Decidable p] (h : p) : cI p = 1 := if_pos h
theorem cI_f {p : Prop} [Decidable p] (h : ¬ p) : cI p = 0 := if_neg h
theorem cI_0 {p : Prop} [Decidable p] : (cI p = 0) ↔ ¬ p := by
  by_cases h : p
  · unfold cI; simp [h]
  · unfold cI; simp [h]
theorem cI_1 {p : Prop} [Decidable p] : (cI p = 1) ↔ p := by
  by_cases h : p
  · unfold cI; simp [h]
  · unfold cI; simp [h]
theorem bz_cI {p : Prop} [Decidable p] : bz (cI p) = cI p := by
  by_cases h : p
  · rw [cI_t h]; rfl
  · rw [cI_f h]; rfl
theorem cI_iff {p q : Prop} [Decidable p] [Decidable q] (h : p ↔ q) : cI p = cI q := by
  by_cases hp : p
  · rw [cI_t hp, cI_t (h.mp hp)]
  · rw [cI_f hp, cI_f (fun z => hp (h.mpr z))]
theorem cI_nI {p : Prop} [Decidable p] : cI p = nI (if p then 1 else 0) := by
  by_cases h : p
  · rw [cI_t h, if_pos h]; rfl
  · rw [cI_f h, if_neg h]; rfl
/-! ranges -/
def inr (v : Int32) (n : Nat) : Prop := 0 ≤ v.toInt ∧ v.toInt < (n : Int)
theorem inr_dec (v : Int32) (n : Nat) : (0 ≤ v.toInt ∧ v.toInt < (n : Int)) ↔ inr v n := Iff.rfl
def inrB (v : Int32) (n : Nat) : Bool := decide (0 ≤ v.toInt) && decide (v.toInt < (n : Int))
theorem inrB_iff {v : Int32} {n : Nat} : inrB v n = true ↔ inr v n := by simp [inrB, inr]
theorem i_lt {x y : Int32} : x < y ↔ x.toInt < y.toInt := Int32.lt_iff_toInt_lt
theorem i_le {x y : Int32} : x ≤ y ↔ x.toInt ≤ y.toInt := Int32.le_iff_toInt_le
theorem i_eq {x y : Int32} : x = y ↔ x.toInt = y.toInt := Int32.toInt_inj.symm
theorem i_0 : (0 : Int32).toInt = 0 := rfl
theorem inr_of {v : Int32} {n : Nat} (h : inr v n) (hn : n < 2 ^ 31) : ∃ j : Nat, j < n ∧ v = nI j := vp_in_of (vp_in_iff.mpr h) hn
theorem inr_nI {j n : Nat} (hj : j < 2 ^ 31) : inr (nI j) n ↔ j < n := by
  unfold inr
  rw [nI_toInt hj]
  omega
theorem inr_not {v : Int32} {n : Nat} (hn : n < 2 ^ 31) : (v < 0 ∨ nI n ≤ v) ↔ ¬ inr v n := by
  unfold inr
  rw [i_lt, i_le, nI_toInt hn, i_0]
  omega
/-- the two tests of a range, as the programs write them -/
theorem rng {β : Type} {v : Int32} {n : Nat} (hn : n < 2 ^ 31) {a b : Option β} : (if v < 0 then a else if nI n ≤ v then a else b) = if inrB v n = true then b else a := by
  by_cases h : inr v n
  · rw [if_pos (inrB_iff.mpr h)]
    have := (inr_not (v := v) hn)
    rw [if_neg (fun z => (this.mp (Or.inl z)) h), if_neg (fun z => (this.mp (Or.inr z)) h)]
  · rw [if_neg (fun z => h (inrB_iff.mp z))]
    rcases (inr_not hn).mpr h with z | z
    · rw [if_pos z]
    · by_cases w : v < 0
      · rw [if_pos w]
      · rw [if_neg w, if_pos z]
/-! memory -/
def Fr (S : List Nat) (M M' : Mem) : Prop := ∀ a, a ∉ S → M' a = M a
theorem Fr.rf {S : List Nat} {M : Mem} : Fr S M M := fun _ _ => rfl
theorem Fr.tr {S : List Nat} {M M' M'' : Mem} (h : Fr S M M') (h' : Fr S M' M'') : Fr S M M'' := fun a ha => (h' a ha).trans (h a ha)
theorem Fr.mo {S S' : List Nat} {M M' : Mem} (h : Fr S M M') (hs : ∀ a ∈ S, a ∈ S') : Fr S' M M' := fun a ha => h a (fun z => ha (hs a z))
theorem Fr.st {S : List Nat} {M : Mem} {k j : Nat} {v : Int32} (h : k ∈ S) : Fr S M (st2 M k j v) := fun a ha => by
  have : a ≠ k := fun e => ha (e ▸ h)
  simp [st2, this]
theorem st2_s {M : Mem} {k j : Nat} {v : Int32} : st2 M k j v k = upd (M k) j v := by simp [st2]
theorem st2_n {M : Mem} {k j a : Nat} {v : Int32} (h : a ≠ k) : st2 M k j v a = M a := by simp [st2, h]
theorem upd_s {f : Nat → Int32} {k : Nat} {x : Int32} : upd f k x k = x := by simp [upd]
theorem upd_n {f : Nat → Int32} {k j : Nat} {x : Int32} (h : j ≠ k) : upd f k x j = f j := by simp [upd, h]
def AR (M : Mem) (k n : Nat) (f : Nat → Nat) : Prop := ∀ j, j < n → M k j = nI (f j)
theorem AR.fr {M M' : Mem} {k n : Nat} {f : Nat → Nat} (h : AR M k n f) (e : M' k = M k) : AR M' k n f := fun j hj => by rw [e]; exact h j hj
theorem AR.le {M : Mem} {k n n' : Nat} {f : Nat → Nat} (h : AR M k n f) (e : n' ≤ n) : AR M k n' f := fun j hj => h j (by omega)
theorem AR.cg {M : Mem} {k n : Nat} {f g : Nat → Nat} (h : AR M k n f) (e : ∀ j, j < n → f j = g j) : AR M k n g := fun j hj => by rw [h j hj, e j hj]
/-! sums -/
def sm : Nat → (Nat → Nat) → Nat
  | 0, _ => 0
  | n + 1, f => sm n f + f n
theorem sm_cg {n : Nat} {f g : Nat → Nat} (h : ∀ x, x < n → f x = g x) : sm n f = sm n g := by
  induction n with
  | zero => rfl
  | succ n ih => simp only [sm]; rw [ih (fun x hx => h x (by omega)), h n (by omega)]
theorem sm_le {n b : Nat} {f : Nat → Nat} (h : ∀ x, x < n → f x ≤ b) : sm n f ≤ n * b := by
  induction n with
  | zero => simp [sm]
  | succ n ih =>
    simp only [sm]
    have h1 := ih (fun x hx => h x (by omega))
    have h2 := h n (by omega)
    have h3 : (n + 1) * b = n * b + b := Nat.succ_mul n b
    omega
theorem sm_add {n : Nat} {f g : Nat → Nat} : sm n (fun x => f x + g x) = sm n f + sm n g := by
  induction n with
  | zero => rfl
  | succ n ih => simp only [sm]; rw [ih]; omega
theorem sm_0 {n : Nat} : sm n (fun _ => 0) = 0 := by
  induction n with
  | zero => rfl
  | succ n ih => simp only [sm]; rw [ih]
theorem sm_swap {n m : Nat} {f : Nat → Nat → Nat} : sm n (fun x => sm m (fun y => f x y)) = sm m (fun y => sm n (fun x => f x y)) := by
  induction n with
  | zero => simp only [sm]; exact sm_0.symm
  | succ n ih => simp only [sm]; rw [ih, ← sm_add]
theorem sm_mono {n : Nat} {f g : Nat → Nat} (h : ∀ x, x < n → f x ≤ g x) : sm n f ≤ sm n g := by
  induction n with
  | zero => exact Nat.le_refl _
  | succ n ih =>
    simp only [sm]
    have h1 := ih (fun x hx => h x (by omega))
    have h2 := h n (by omega)
    omega
