/-! by hand: how many turns: the product of the places -/
theorem inj_len {φ : Nat → Nat} : ∀ (l l' : List Nat), l.Nodup → (∀ a, a ∈ l → φ a ∈ l') → (∀ a b, a ∈ l → b ∈ l → φ a = φ b → a = b) → l.length ≤ l'.length
  | [], _, _, _, _ => Nat.zero_le _
  | a :: t, l', hn, hs, hi => by
    obtain ⟨h1, h2⟩ := List.nodup_cons.mp hn
    have ha := hs a List.mem_cons_self
    have e := List.length_erase_of_mem ha
    have hp := List.length_pos_of_mem ha
    have ih := inj_len t (l'.erase (φ a)) h2 (fun b hb => (List.mem_erase_of_ne (fun z => h1 (by
      have := hi b a (List.mem_cons_of_mem _ hb) List.mem_cons_self z
      rw [← this]; exact hb))).mpr (hs b (List.mem_cons_of_mem _ hb))) (fun b c hb hc => hi b c (List.mem_cons_of_mem _ hb) (List.mem_cons_of_mem _ hc))
    rw [List.length_cons]
    omega
theorem len_sm {φ : Nat → Nat} {n : Nat} : ∀ (l : List Nat), (∀ a, a ∈ l → φ a < n) → sm n (fun y => (l.filter (fun a => φ a == y)).length) = l.length
  | [], _ => by
    exact (sm_cg (g := fun _ => 0) (fun _ _ => rfl)).trans sm_0
  | a :: t, h => by
    rw [sm_cg (g := fun y => (t.filter (fun a => φ a == y)).length + if φ a = y then 1 else 0) (fun y _ => ?_), sm_add, len_sm t (fun b hb => h b (List.mem_cons_of_mem _ hb)), sm_one (f := fun _ => 1) (h a List.mem_cons_self), List.length_cons]
    by_cases c : φ a = y
    · rw [List.filter_cons_of_pos (by rw [beq_iff_eq]; exact c), List.length_cons, if_pos c]
    · rw [List.filter_cons_of_neg (by rw [beq_iff_eq]; exact c), if_neg c]; rfl
theorem sm_mul {f : Nat → Nat} {L : Nat} : ∀ {n : Nat}, sm n (fun y => f y * L) = sm n f * L
  | 0 => (Nat.zero_mul L).symm
  | n + 1 => by rw [sm_s, sm_s, sm_mul, Nat.add_mul]
/-- a turn that keeps the first x -/
def gB (S ma : Nat → Nat) (n x m : Nat) : Bool := trnB S ma n (dg n m) && al x (fun e => dg n m e == e)
def gL (S ma : Nat → Nat) (n x : Nat) : List Nat := (PL n).filter (gB S ma n x)
def brg (S ma : Nat → Nat) (n x a y : Nat) : Bool := (PL n).any (fun m => gB S ma n x m && dg n m a == y)
def orb (S ma : Nat → Nat) (n x : Nat) : Nat := sm n (fun y => if x ≤ y ∧ brg S ma n x x y = true then 1 else 0)
def prd (S ma : Nat → Nat) (n : Nat) : Nat → Nat
  | 0 => 1
  | x + 1 => prd S ma n x * orb S ma n x
def GG (S ma : Nat → Nat) (n x : Nat) (f : Nat → Nat) : Prop := Pm n f ∧ trnB S ma n f = true ∧ ∀ e, e < x → f e = e
theorem gL_iff {S ma : Nat → Nat} {n x m : Nat} (h7 : n ≤ 7) : m ∈ gL S ma n x → GG S ma n x (dg n m) ∧ num (dg n m) n = m := fun h => by
  unfold gL at h
  rw [List.mem_filter] at h
  obtain ⟨h1, h2⟩ := h
  unfold gB at h2
  rw [Bool.and_eq_true, al_iff] at h2
  obtain ⟨a1, a2⟩ := PL_inv h7 h1
  exact ⟨⟨a1, h2.1, fun e he => beq_iff_eq.mp (h2.2 e he)⟩, a2⟩
theorem gL_in {S ma : Nat → Nat} {n x : Nat} {f : Nat → Nat} (h7 : n ≤ 7) (hx : x ≤ n) (h : GG S ma n x f) : num f n ∈ gL S ma n x := by
  obtain ⟨h1, h2, h3⟩ := h
  have hd := h1.dgn h7
  unfold gL
  rw [List.mem_filter]
  refine ⟨PL_mem h1, ?_⟩
  unfold gB
  rw [Bool.and_eq_true, al_iff]
  exact ⟨trn_cg (fun x hx => (hd x hx).symm) h2, fun e he => by rw [hd e (by omega), h3 e he]; exact beq_self_eq_true _⟩
theorem brg_iff {S ma : Nat → Nat} {n x a y : Nat} (h7 : n ≤ 7) (hx : x ≤ n) (ha : a < n) : brg S ma n x a y = true ↔ ∃ f, GG S ma n x f ∧ f a = y := by
  unfold brg
  rw [List.any_eq_true]
  constructor
  · rintro ⟨m, hm, h⟩
    rw [Bool.and_eq_true, beq_iff_eq] at h
    exact ⟨dg n m, (gL_iff h7 (List.mem_filter.mpr ⟨hm, h.1⟩)).1, h.2⟩
  · rintro ⟨f, hf, e⟩
    have h1 := gL_in h7 hx hf
    unfold gL at h1
    rw [List.mem_filter] at h1
    refine ⟨num f n, h1.1, ?_⟩
    rw [Bool.and_eq_true, beq_iff_eq, hf.1.dgn h7 a ha]
    exact ⟨h1.2, e⟩
theorem brg_mv {S ma : Nat → Nat} {n a y : Nat} : brg S ma n 0 a y = mvB S ma n a y := by
  unfold brg mvB gB
  congr 1
  funext m
  rw [show al 0 (fun e => dg n m e == e) = true from rfl, Bool.and_true]
theorem brg_le {S ma : Nat → Nat} {n x y : Nat} (h7 : n ≤ 7) (hx : x < n) (h : brg S ma n x x y = true) : x ≤ y ∧ y < n := by
  obtain ⟨f, ⟨h1, h2, h3⟩, e⟩ := (brg_iff h7 (by omega) hx).mp h
  have hy := h1.1 x hx
  refine ⟨?_, by omega⟩
  rcases Nat.lt_or_ge y x with c | c
  · have := h1.2 y x (by omega) hx (by rw [h3 y c]; exact e.symm)
    omega
  · exact c
theorem num_in {n : Nat} {f g : Nat → Nat} (hf : Pm n f) (hg : Pm n g) (h7 : n ≤ 7) (e : num f n = num g n) : ∀ x, x < n → f x = g x := fun x hx => by
  rw [← hf.dgn h7 x hx, ← hg.dgn h7 x hx, e]
theorem cnt_step {S ma : Nat → Nat} {n x : Nat} (h1 : 1 ≤ n) (h7 : n ≤ 7) (hx : x < n) : (gL S ma n x).length = orb S ma n x * (gL S ma n (x + 1)).length := by
  have hnd : ∀ x, (gL S ma n x).Nodup := fun x => List.Pairwise.filter _ (PL_nd h1 h7)
  rw [← len_sm (φ := fun m => dg n m x) (n := n) (gL S ma n x) (fun m hm => (gL_iff h7 hm).1.1.1 x hx)]
  have key : ∀ y, y < n → ((gL S ma n x).filter (fun m => dg n m x == y)).length = (if x ≤ y ∧ brg S ma n x x y = true then 1 else 0) * (gL S ma n (x + 1)).length := by
    intro y hy
    by_cases c : brg S ma n x x y = true
    · rw [if_pos ⟨(brg_le h7 hx c).1, c⟩, Nat.one_mul]
      obtain ⟨h, hh, e⟩ := (brg_iff h7 (by omega) hx).mp c
      obtain ⟨b1, b2, b3⟩ := hh
      have i1 := b1.inv
      have i2 := trn_inv b1 b2
      refine Nat.le_antisymm ?_ ?_
      · refine inj_len (φ := fun m => num (fun u => ivp n h (dg n m u)) n) _ _ (List.Pairwise.filter _ (hnd x)) (fun m hm => ?_) (fun m m' hm hm' z => ?_)
        · rw [List.mem_filter] at hm
          obtain ⟨⟨c1, c2, c3⟩, -⟩ := gL_iff h7 hm.1
          refine gL_in h7 (by omega) ⟨i1.cmp c1, trn_cmp c1.1 i2 c2, fun u hu => ?_⟩
          by_cases q : u = x
          · subst q
            show ivp n h (dg n m u) = u
            rw [beq_iff_eq.mp hm.2, ← e]
            exact ivp_l b1 hx
          · show ivp n h (dg n m u) = u
            rw [c3 u (by omega)]
            have q2 := ivp_l b1 (x := u) (by omega)
            rw [b3 u (by omega)] at q2
            exact q2
        · rw [List.mem_filter] at hm hm'
          obtain ⟨⟨c1, -, -⟩, c4⟩ := gL_iff h7 hm.1
          obtain ⟨⟨d1, -, -⟩, d4⟩ := gL_iff h7 hm'.1
          have hu := num_in (i1.cmp c1) (i1.cmp d1) h7 z
          rw [← c4, ← d4]
          exact num_cg (fun u huu => i1.2 _ _ (c1.1 u huu) (d1.1 u huu) (hu u huu))
      · refine inj_len (φ := fun m => num (fun u => h (dg n m u)) n) _ _ (hnd (x + 1)) (fun m hm => ?_) (fun m m' hm hm' z => ?_)
        · obtain ⟨⟨c1, c2, c3⟩, -⟩ := gL_iff h7 hm
          have hg : GG S ma n x (fun u => h (dg n m u)) := ⟨b1.cmp c1, trn_cmp c1.1 b2 c2, fun u hu => by
            show h (dg n m u) = u
            rw [c3 u (by omega), b3 u hu]⟩
          rw [List.mem_filter, beq_iff_eq, hg.1.dgn h7 x hx]
          exact ⟨gL_in h7 (by omega) hg, by show h (dg n m x) = y; rw [c3 x (by omega)]; exact e⟩
        · obtain ⟨⟨c1, -, -⟩, c4⟩ := gL_iff h7 hm
          obtain ⟨⟨d1, -, -⟩, d4⟩ := gL_iff h7 hm'
          have hu := num_in (b1.cmp c1) (b1.cmp d1) h7 z
          rw [← c4, ← d4]
          exact num_cg (fun u huu => b1.2 _ _ (c1.1 u huu) (d1.1 u huu) (hu u huu))
    · rw [if_neg (fun z => c z.2), Nat.zero_mul]
      rw [List.length_eq_zero_iff, List.filter_eq_nil_iff]
      intro m hm z
      refine c ((brg_iff h7 (by omega) hx).mpr ⟨dg n m, (gL_iff h7 hm).1, beq_iff_eq.mp z⟩)
  rw [sm_cg key, sm_mul]
  rfl
theorem prd_ok {S ma : Nat → Nat} {n : Nat} (h1 : 1 ≤ n) (h7 : n ≤ 7) : ∀ x, x ≤ n → prd S ma n x * (gL S ma n x).length = (gL S ma n 0).length := by
  intro x
  induction x with
  | zero => intro _; exact Nat.one_mul _
  | succ x ih =>
    intro hx
    rw [← ih (by omega), cnt_step h1 h7 (show x < n by omega), show prd S ma n (x + 1) = prd S ma n x * orb S ma n x from rfl, Nat.mul_assoc]
theorem gL_n {S ma : Nat → Nat} {n : Nat} (h1 : 1 ≤ n) (h7 : n ≤ 7) : (gL S ma n n).length = 1 := by
  have hG : GG S ma n n (fun x => x) := ⟨Pm.id n, trnB_iff.mpr (fun _ _ => ⟨rfl, fun _ _ _ _ => rfl⟩), fun _ _ => rfl⟩
  have hp := List.length_pos_of_mem (gL_in h7 (Nat.le_refl _) hG)
  have := inj_len (φ := fun m => m) (gL S ma n n) [num (fun x => x) n] (List.Pairwise.filter _ (PL_nd h1 h7)) (fun m hm => by
    obtain ⟨⟨-, -, c3⟩, c4⟩ := gL_iff h7 hm
    rw [List.mem_singleton]
    show m = _
    rw [← c4]
    exact num_cg c3) (fun a b _ _ z => z)
  rw [List.length_singleton] at this
  omega
theorem turns_prd {S ma : Nat → Nat} {n : Nat} (h1 : 1 ≤ n) (h7 : n ≤ 7) : ((PL n).filter (fun m => trnB S ma n (dg n m))).length = prd S ma n n := by
  have h := prd_ok (S := S) (ma := ma) h1 h7 n (Nat.le_refl _)
  rw [gL_n h1 h7, Nat.mul_one] at h
  rw [h]
  unfold gL gB
  congr 1
  congr 1
  funext m
  rw [show al 0 (fun e => dg n m e == e) = true from rfl, Bool.and_true]
