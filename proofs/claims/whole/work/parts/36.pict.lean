/-! by hand: picture -/
def ct (S : Nat → Nat) (n : Nat) (p : Nat → Nat) (k x b : Nat) : Nat := sm n (fun z => if p z = b ∧ 0 < sg S k x z then 1 else 0)
theorem ct_le {S : Nat → Nat} {n : Nat} {p : Nat → Nat} {k x b : Nat} : ct S n p k x b ≤ n := by
  have := sm_le (n := n) (b := 1) (f := fun z => if p z = b ∧ 0 < sg S k x z then 1 else 0) (fun z _ => ite01 _)
  unfold ct; omega
theorem sm_s (n : Nat) (f : Nat → Nat) : sm (n + 1) f = sm n f + f n := rfl
theorem Bl_tiesTo_eq {S : Nat → Nat} {n k x b : Nat} {p : Nat → Nat} {M : Mem} (h : Tbl M 3 S) (hn : M 1 2 = nI n) (h7 : n ≤ 7) (hp : AR M 27 n p) (hp7 : ∀ z, z < n → p z < 100) (hk : k < 3) (hx : x < 7) (hb : b < 100) : Bl_tiesTo (nI x) (nI b) (nI k) M = some (nI (ct S n p k x b)) := by
  unfold Bl_tiesTo
  refine LOOP_fun (fun z => (nI (sm z (fun z => if p z = b ∧ 0 < sg S k x z then 1 else 0)), nI z)) n (by omega) (fun _ => some (nI (ct S n p k x b))) ?_ ?_ 0 (Nat.zero_le _)
  · intro z ag hz ih
    have hpz := hp7 z hz
    show Bl_tiesTo_L6 (nI x) (nI b) (nI k) M _ ag _ (nI z) = _
    unfold Bl_tiesTo_L6
    rw [hn, if_neg (by rw [nI_leI (by omega) (by omega)]; omega), Pa_of_nI isP_26 (by omega), bind_s, hp z hz, To_tied_eq h hk hx (by omega), bind_s]
    simp (disch := omega) only [nI_eq, i32lit, nI_add, cI_n0]
    rw [← ih, sm_s]
    by_cases e : p z = b
    · by_cases c : 0 < sg S k x z
      · rw [if_pos e, if_neg (not_not_intro c), if_pos ⟨e, c⟩]
      · rw [if_pos e, if_pos c, if_neg (fun w => c w.2)]; rfl
    · rw [if_neg e, if_neg (fun w => e w.1)]; rfl
  · intro ag
    show Bl_tiesTo_L6 (nI x) (nI b) (nI k) M _ ag _ (nI n) = _
    unfold Bl_tiesTo_L6
    rw [hn, if_pos (by rw [nI_leI (by omega) (by omega)]; omega)]
    rfl
theorem nI_sub {a b : Nat} (h : b ≤ a) : nI a - nI b = nI (a - b) := by
  obtain ⟨c, rfl⟩ : ∃ c, a = c + b := ⟨a - b, by omega⟩
  rw [← nI_add, Int32.add_sub_cancel, Nat.add_sub_cancel]
/-- least, most of f over those of part a -/
def mnA (p f : Nat → Nat) (a s : Nat) : Nat → Nat
  | 0 => s
  | i + 1 => if p i = a then min (mnA p f a s i) (f i) else mnA p f a s i
def mxA (p f : Nat → Nat) (a : Nat) : Nat → Nat
  | 0 => 0
  | i + 1 => if p i = a then max (mxA p f a i) (f i) else mxA p f a i
theorem mnA_s (p f : Nat → Nat) (a s i : Nat) : mnA p f a s (i + 1) = if p i = a then min (mnA p f a s i) (f i) else mnA p f a s i := rfl
theorem mxA_s (p f : Nat → Nat) (a i : Nat) : mxA p f a (i + 1) = if p i = a then max (mxA p f a i) (f i) else mxA p f a i := rfl
theorem mnA_le (p f : Nat → Nat) (a s : Nat) : ∀ n, mnA p f a s n ≤ s ∧ ∀ x, x < n → p x = a → mnA p f a s n ≤ f x
  | 0 => ⟨Nat.le_refl _, fun x hx => by omega⟩
  | n + 1 => by
    obtain ⟨h1, h2⟩ := mnA_le p f a s n
    rw [mnA_s]
    by_cases e : p n = a
    · rw [if_pos e]
      refine ⟨by omega, fun x hx hxa => ?_⟩
      by_cases e2 : x = n
      · subst e2; omega
      · have := h2 x (by omega) hxa; omega
    · rw [if_neg e]
      refine ⟨h1, fun x hx hxa => ?_⟩
      by_cases e2 : x = n
      · subst e2; exact absurd hxa e
      · exact h2 x (by omega) hxa
theorem mnA_ex (p f : Nat → Nat) (a s : Nat) : ∀ n, mnA p f a s n = s ∨ ∃ x, x < n ∧ p x = a ∧ f x = mnA p f a s n
  | 0 => Or.inl rfl
  | n + 1 => by
    have ih := mnA_ex p f a s n
    rw [mnA_s]
    by_cases e : p n = a
    · rw [if_pos e]
      rcases Nat.le_total (mnA p f a s n) (f n) with z | z
      · rw [Nat.min_eq_left z]
        rcases ih with w | ⟨x, h1, h2, h3⟩
        · exact Or.inl w
        · exact Or.inr ⟨x, by omega, h2, h3⟩
      · rw [Nat.min_eq_right z]
        exact Or.inr ⟨n, by omega, e, rfl⟩
    · rw [if_neg e]
      rcases ih with w | ⟨x, h1, h2, h3⟩
      · exact Or.inl w
      · exact Or.inr ⟨x, by omega, h2, h3⟩
theorem mxA_ge (p f : Nat → Nat) (a : Nat) : ∀ n x, x < n → p x = a → f x ≤ mxA p f a n
  | 0, x, hx, _ => by omega
  | n + 1, x, hx, hxa => by
    have ih := mxA_ge p f a n x
    rw [mxA_s]
    by_cases e2 : x = n
    · subst e2; rw [if_pos hxa]; omega
    · have := ih (by omega) hxa
      split <;> omega
theorem mxA_ex (p f : Nat → Nat) (a : Nat) : ∀ n, mxA p f a n = 0 ∨ ∃ x, x < n ∧ p x = a ∧ f x = mxA p f a n
  | 0 => Or.inl rfl
  | n + 1 => by
    have ih := mxA_ex p f a n
    rw [mxA_s]
    by_cases e : p n = a
    · rw [if_pos e]
      rcases Nat.le_total (f n) (mxA p f a n) with z | z
      · rw [Nat.max_eq_left z]
        rcases ih with w | ⟨x, h1, h2, h3⟩
        · exact Or.inl w
        · exact Or.inr ⟨x, by omega, h2, h3⟩
      · rw [Nat.max_eq_right z]
        exact Or.inr ⟨n, by omega, e, rfl⟩
    · rw [if_neg e]
      rcases ih with w | ⟨x, h1, h2, h3⟩
      · exact Or.inl w
      · exact Or.inr ⟨x, by omega, h2, h3⟩
def szP (n : Nat) (p : Nat → Nat) (b : Nat) : Nat := sm n (fun x => if p x = b then 1 else 0)
theorem szP_le {n : Nat} {p : Nat → Nat} {b : Nat} : szP n p b ≤ n := by
  have := sm_le (n := n) (b := 1) (f := fun x => if p x = b then 1 else 0) (fun z _ => ite01 _)
  unfold szP; omega
theorem szP_pos {n x : Nat} {p : Nat → Nat} (hx : x < n) : 1 ≤ szP n p (p x) := by
  have := sm_lt (n := n) (f := fun _ => 0) (g := fun y => if p y = p x then 1 else 0) (fun _ _ => Nat.zero_le _) hx (by rw [if_pos rfl]; omega)
  unfold szP; omega
theorem RGS_hit {p : Nat → Nat} {a : Nat} : ∀ {n : Nat}, RGS n p → a < top p n → ∃ x, x < n ∧ p x = a
  | 0, _, h => absurd h (Nat.not_lt_zero _)
  | n + 1, hr, h => by
    rw [top_s] at h
    have h1 := hr n (by omega)
    by_cases e : a < top p n
    · obtain ⟨x, hx, hxa⟩ := RGS_hit (fun y hy => hr y (by omega)) e
      exact ⟨x, by omega, hxa⟩
    · exact ⟨n, by omega, by omega⟩
/-- a picture: 0 none, 1 all, 2 each as many, 4 some none, 3 others -/
def pict (S : Nat → Nat) (n : Nat) (p : Nat → Nat) (a b k : Nat) : Nat :=
  let w := szP n p b - if a = b then 1 else 0
  let lo := mnA p (fun x => ct S n p k x b) a w n
  let hi := mxA p (fun x => ct S n p k x b) a n
  if hi = 0 then 0 else if lo = w then 1 else if lo = hi then 2 else if lo = 0 then 4 else 3
theorem mxA_le {p f : Nat → Nat} {a b : Nat} (h : ∀ x, f x ≤ b) (n : Nat) : mxA p f a n ≤ b := by
  rcases mxA_ex p f a n with e | ⟨x, -, -, e⟩
  · omega
  · rw [← e]; exact h x
theorem Bl_image_eq {S : Nat → Nat} {n k a b : Nat} {p : Nat → Nat} {M : Mem} (h : Tbl M 3 S) (hn : M 1 2 = nI n) (h7 : n ≤ 7) (hp : PT M 26 n p) (hr : RGS n p) (hk : k < 3) (ha : a < top p n) (hb : b < top p n) : Bl_image (nI a) (nI b) (nI k) M = some (nI (pict S n p a b k)) := by
  have hp7 : ∀ z, z < n → p z < 100 := fun z hz => by have := hr.ltn z hz; omega
  have ht := hr.top7
  have hsz := szP_le (n := n) (p := p) (b := b)
  obtain ⟨xb, hxb, hxb2⟩ := RGS_hit hr hb
  have hpos := szP_pos (p := p) hxb
  rw [hxb2] at hpos
  unfold Bl_image
  rw [Pa_sizeOf_eq h7 hp.1 hp.2.2 hp7 (by omega), bind_s, jp_e]
  have hw : ∀ c : Int32, c = nI (if a = b then 1 else 0) → nI (szP n p b) - c = nI (szP n p b - if a = b then 1 else 0) := fun c hc => by
    rw [hc, nI_sub (by split <;> omega)]
  have key : LOOP (fun aq sq => Bl_image_L30 (nI a) (nI b) (nI k) M (fun (v7_3 : Int32) (v8_3 : Int32) => if v8_3 = 0 then some 0 else if v7_3 = nI (szP n p b - if a = b then 1 else 0) then some 1 else if v7_3 = v8_3 then some 2 else if v7_3 ≤ 0 then some 4 else some 3) aq sq.1 sq.2.1 sq.2.2) FU (nI (szP n p b - if a = b then 1 else 0), 0, 0) = some (nI (pict S n p a b k)) := by
    refine LOOP_fun (fun x => (nI (mnA p (fun x => ct S n p k x b) a (szP n p b - if a = b then 1 else 0) x), nI (mxA p (fun x => ct S n p k x b) a x), nI x)) n (by omega) (fun _ => some (nI (pict S n p a b k))) ?_ ?_ 0 (Nat.zero_le _)
    · intro x ag hx ih
      have hpx := hp7 x hx
      have l1 := (mnA_le p (fun x => ct S n p k x b) a (szP n p b - if a = b then 1 else 0) x).1
      have l2 := mxA_le (p := p) (f := fun x => ct S n p k x b) (a := a) (b := n) (fun x => ct_le) x
      have l3 := ct_le (S := S) (n := n) (p := p) (k := k) (x := x) (b := b)
      show Bl_image_L30 (nI a) (nI b) (nI k) M _ ag _ _ (nI x) = _
      unfold Bl_image_L30
      rw [hn, if_neg (by rw [nI_leI (by omega) (by omega)]; omega), Pa_of_nI isP_26 (by omega), bind_s, hp.2.2 x hx, Bl_tiesTo_eq h hn h7 hp.2.2 hp7 hk (by omega) (by omega), bind_s, nm_e', nm_e', jmin_nI (by omega) (by omega), jmax_nI (by omega) (by omega)]
      simp (disch := omega) only [nI_eq, i32lit, nI_add]
      rw [← ih, mnA_s, mxA_s]
      by_cases e : p x = a
      · rw [if_pos e, if_pos e, if_pos e]
      · rw [if_neg e, if_neg e, if_neg e]
    · intro ag
      have l1 := (mnA_le p (fun x => ct S n p k x b) a (szP n p b - if a = b then 1 else 0) n).1
      have l2 := mxA_le (p := p) (f := fun x => ct S n p k x b) (a := a) (b := n) (fun x => ct_le) n
      show Bl_image_L30 (nI a) (nI b) (nI k) M _ ag _ _ (nI n) = _
      unfold Bl_image_L30
      rw [hn, if_pos (by rw [nI_leI (by omega) (by omega)]; omega)]
      unfold pict
      simp (disch := omega) only [nI_eq, i32lit, nI_leI, Nat.le_zero]
      repeat' split
      all_goals rfl
  simp (disch := omega) only [nI_eq]
  by_cases e : a = b
  · rw [if_pos e]
    simp only [nm_e']
    show LOOP (fun aq sq => Bl_image_L30 (nI a) (nI b) (nI k) M (fun (v7_3 : Int32) (v8_3 : Int32) => if v8_3 = 0 then some 0 else if v7_3 = nI (szP n p b) - 1 then some 1 else if v7_3 = v8_3 then some 2 else if v7_3 ≤ 0 then some 4 else some 3) aq sq.1 sq.2.1 sq.2.2) FU (nI (szP n p b) - 1, 0, 0) = _
    rw [hw 1 (by rw [if_pos e]; rfl)]
    exact key
  · rw [if_neg e]
    simp only [nm_e']
    show LOOP (fun aq sq => Bl_image_L30 (nI a) (nI b) (nI k) M (fun (v7_3 : Int32) (v8_3 : Int32) => if v8_3 = 0 then some 0 else if v7_3 = nI (szP n p b) - 0 then some 1 else if v7_3 = v8_3 then some 2 else if v7_3 ≤ 0 then some 4 else some 3) aq sq.1 sq.2.1 sq.2.2) FU (nI (szP n p b) - 0, 0, 0) = _
    rw [hw 0 (by rw [if_neg e]; rfl)]
    exact key
theorem sm_z {n : Nat} {f : Nat → Nat} (h : sm n f = 0) : ∀ x, x < n → f x = 0 := by
  induction n with
  | zero => intro x hx; omega
  | succ n ih =>
    intro x hx
    rw [sm_s] at h
    by_cases e : x = n
    · subst e; omega
    · exact ih (by omega) x (by omega)
def slt (n : Nat) (p : Nat → Nat) (x b : Nat) : Nat := sm n (fun z => if z ≠ x ∧ p z = b then 1 else 0)
theorem sm_at {n x c : Nat} (hx : x < n) : sm n (fun z => if z = x then c else 0) = c := by
  induction n with
  | zero => omega
  | succ n ih =>
    rw [sm_s]
    by_cases e : x = n
    · subst e
      rw [if_pos rfl, sm_cg (g := fun _ => 0) (fun z hz => if_neg (by omega)), sm_0, Nat.zero_add]
    · rw [if_neg (fun z => e z.symm), ih (by omega)]; rfl
theorem slt_eq {n x b : Nat} {p : Nat → Nat} (hx : x < n) : slt n p x b = szP n p b - if p x = b then 1 else 0 := by
  have h : szP n p b = slt n p x b + if p x = b then 1 else 0 := by
    unfold szP slt
    rw [← sm_at (c := if p x = b then 1 else 0) hx, ← sm_add]
    refine sm_cg fun z hz => ?_
    by_cases e : z = x
    · subst e
      rw [if_neg (fun w : z ≠ z ∧ _ => w.1 rfl), if_pos rfl, Nat.zero_add]
    · rw [if_neg e]
      by_cases c : p z = b
      · rw [if_pos c, if_pos ⟨e, c⟩]
      · rw [if_neg c, if_neg (fun w => c w.2)]
  omega
theorem ct_slt {S : Nat → Nat} {n : Nat} {p : Nat → Nat} {k x b : Nat} (h0 : sg S k x x = 0) : ct S n p k x b ≤ slt n p x b := by
  refine sm_mono fun z hz => ?_
  by_cases c : p z = b ∧ 0 < sg S k x z
  · rw [if_pos c, if_pos ⟨fun e => by subst e; omega, c.1⟩]; exact Nat.le_refl _
  · rw [if_neg c]; exact Nat.zero_le _
theorem pict_md {S : Nat → Nat} {n : Nat} {p : Nat → Nat} {a b k : Nat} (h7 : n ≤ 7) (hr : RGS n p) (ha : a < top p n) (h0 : ∀ x, x < n → sg S k x x = 0) :
    (if sm n (fun x => if p x = a then ct S n p k x b else 0) = 0 then 0 else if sm n (fun x => if p x = a then ct S n p k x b else 0) = sm n (fun x => if p x = a then slt n p x b else 0) then 1 else if mnA p (fun x => ct S n p k x b) a 100 n = mxA p (fun x => ct S n p k x b) a n then 2 else if mnA p (fun x => ct S n p k x b) a 100 n = 0 then 4 else 3) = pict S n p a b k := by
  obtain ⟨w, hw⟩ : ∃ w, w = szP n p b - if a = b then 1 else 0 := ⟨_, rfl⟩
  have hs : ∀ x, x < n → p x = a → slt n p x b = w := fun x hx e => by rw [slt_eq hx, e, hw]
  have hle : ∀ x, x < n → p x = a → ct S n p k x b ≤ w := fun x hx e => by rw [← hs x hx e]; exact ct_slt (h0 x hx)
  obtain ⟨x0, hx0, hxa⟩ := RGS_hit hr ha
  have hn100 : ∀ x, ct S n p k x b ≤ n := fun x => ct_le
  obtain ⟨f, hf⟩ : ∃ f, f = fun x => ct S n p k x b := ⟨_, rfl⟩
  have hle' : ∀ x, x < n → p x = a → f x ≤ w := fun x hx e => by rw [hf]; exact hle x hx e
  have hnf : ∀ x, f x ≤ n := fun x => by rw [hf]; exact hn100 x
  have e1 : sm n (fun x => if p x = a then ct S n p k x b else 0) = sm n (fun x => if p x = a then f x else 0) := by rw [hf]
  have e2 : sm n (fun x => if p x = a then slt n p x b else 0) = sm n (fun x => if p x = a then w else 0) := sm_cg (fun x hx => by
    by_cases e : p x = a
    · rw [if_pos e, if_pos e, hs x hx e]
    · rw [if_neg e, if_neg e])
  unfold pict
  dsimp only
  rw [e1, e2, ← hf, ← hw]
  obtain ⟨m1, m2⟩ := mnA_le p f a 100 n
  obtain ⟨m3, m4⟩ := mnA_le p f a w n
  have m5 := mnA_ex p f a 100 n
  have m6 := mnA_ex p f a w n
  have m7 := mxA_ge p f a n
  have m8 := mxA_ex p f a n
  have a1 := m2 x0 hx0 hxa
  have a2 := hnf x0
  have a3 := hle' x0 hx0 hxa
  have elo : mnA p f a 100 n = mnA p f a w n := by
    rcases m5 with z | ⟨x, b1, b2, b3⟩
    · omega
    · have b4 := m4 x b1 b2
      rcases m6 with z | ⟨y, c1, c2, c3⟩
      · have := hle' x b1 b2; omega
      · have := m2 y c1 c2; omega
  rw [elo]
  have k1 : sm n (fun x => if p x = a then f x else 0) = 0 ↔ mxA p f a n = 0 := by
    constructor
    · intro z
      rcases m8 with y | ⟨x, b1, b2, b3⟩
      · exact y
      · have := sm_z z x b1
        rw [if_pos b2] at this; omega
    · intro z
      rw [sm_cg (g := fun _ => 0) (fun x hx => ?_), sm_0]
      by_cases e : p x = a
      · rw [if_pos e]; have := m7 x hx e; omega
      · rw [if_neg e]
  have k2 : sm n (fun x => if p x = a then f x else 0) = sm n (fun x => if p x = a then w else 0) ↔ mnA p f a w n = w := by
    constructor
    · intro z
      rcases m6 with y | ⟨x, b1, b2, b3⟩
      · exact y
      · by_cases e : f x = w
        · omega
        · have := sm_lt (n := n) (f := fun x => if p x = a then f x else 0) (g := fun x => if p x = a then w else 0) (fun u hu => by
            by_cases c : p u = a
            · rw [if_pos c, if_pos c]; exact hle' u hu c
            · rw [if_neg c, if_neg c]; exact Nat.le_refl _) b1 (by rw [if_pos b2, if_pos b2]; have := hle' x b1 b2; omega)
          omega
    · intro z
      refine sm_cg fun x hx => ?_
      by_cases e : p x = a
      · rw [if_pos e, if_pos e]
        have := m4 x hx e
        have := hle' x hx e
        omega
      · rw [if_neg e, if_neg e]
  simp only [k1, k2]
def R_picture (σ : Sg) (v a b k : Int32) : Ans := match opn σ.1 v with
  | some p => if inrB a (top p σ.1) = true ∧ inrB b (top p σ.1) = true ∧ inrB k 3 = true then (σ, nI (pict (sS σ) σ.1 p a.toInt.toNat b.toInt.toNat k.toInt.toNat)) else no σ 1
  | none => no σ 1
theorem SP_picture_wp {σ : Sg} {M : Mem} (v a b k : Int32) (hw : WF σ) (h : RC M σ) : wp (SP_picture v a b k M) (EC (R_picture σ v a b k) M) := by
  have hn : M 1 2 = nI σ.1 := h.1
  have h7 : σ.1 ≤ 7 := hw.2.1
  unfold SP_picture R_picture
  rw [hn]
  refine wp_bnd2 (Pa_readNumber_wp isP_26 hw.1 hw.2.1) (fun r M1 hr => ?_)
  obtain ⟨f1, hr⟩ := hr
  have g1 : Fr SCR M M1 := f1.mo SCR26
  have h1 := h.fr g1
  rw [jp_e]
  rcases hr with ⟨p, e, rfl, hp⟩ | ⟨e, rfl⟩
  · have hR := (opn_some e).1
    have ht := hR.top7
    rw [e, if_neg one_ne0, Pa_has_eq (q := top p σ.1) hp.2.1 (by omega), Pa_has_eq (q := top p σ.1) hp.2.1 (by omega), SP_isKind_eq]
    simp only [bind_s, cI_0]
    by_cases c1 : inrB a (top p σ.1) = true
    · by_cases c2 : inrB b (top p σ.1) = true
      · by_cases c3 : inrB k 3 = true
        · simp only [c1, c2, c3, not_true_eq_false, if_false, if_true, and_true]
          rw [h1.2.1]
          obtain ⟨a', ha, rfl⟩ := inr_of (inrB_iff.mp c1) (by omega)
          obtain ⟨b', hb, rfl⟩ := inr_of (inrB_iff.mp c2) (by omega)
          obtain ⟨k', hk, rfl⟩ := inr_of (inrB_iff.mp c3) (by omega)
          rw [nat3 (by omega), nat3 (by omega), nat3 (by omega)]
          refine wp_bind (SP_look hw.2.2.1 hw h1) (fun M2 hM2 => ?_)
          obtain ⟨f2, t2⟩ := hM2
          have g2 := f2.mo SCR3
          have h2 := h1.fr g2
          rw [Bl_image_eq t2 h2.1 h7 (hp.fr (f2 26 (by decide)) (f2 27 (by decide))) hR hk ha hb, bind_s]
          exact wp_some (ec_ok h2 (g1.tr g2).hi)
        · simp only [c1, c2, c3, not_true_eq_false, not_false_eq_true, if_false, if_true, and_false]
          exact SP_no1 h1 g1.hi
      · simp only [c1, c2, not_true_eq_false, not_false_eq_true, if_false, if_true, and_false, false_and]
        exact SP_no1 h1 g1.hi
    · simp only [c1, not_false_eq_true, if_false, if_true, false_and]
      exact SP_no1 h1 g1.hi
  · rw [e, if_pos rfl]
    exact SP_no1 h1 g1.hi
theorem l0 : (0 : Int64).toInt = 0 := rfl
theorem MD_isIn_nI {v : Int32} {q : Nat} (h : q < 2 ^ 30) : MD_isIn v.toInt64 0 ((nI (q + 1) - 1).toInt64) = some (cI (inrB v (q + 1) = true)) := by
  rw [MD_isIn_eq, nI_pred, Int32.toInt_toInt64, Int32.toInt_toInt64, nI_toInt (by omega), l0]
  congr 1
  refine cI_iff ?_
  rw [inrB_iff]
  unfold inr
  omega
theorem LOOP_up4 {σ α γ δ τ β : Type} {F : (σ → Option β) → σ → Option β} (enc : Nat → α → γ → δ → τ → σ) (n : Nat) (hn : n < 4000000) (J : Nat → α → γ → δ → τ → Prop) (Q : Option β → Prop)
    (step : ∀ x a c d t ag, x < n → J x a c d t → (∀ a' c' d' t', J (x + 1) a' c' d' t' → Q (ag (enc (x + 1) a' c' d' t'))) → Q (F ag (enc x a c d t)))
    (exit : ∀ a c d t ag, J n a c d t → Q (F ag (enc n a c d t))) (x : Nat) (a : α) (c : γ) (d : δ) (t : τ) (hx : x ≤ n) (hJ : J x a c d t) : Q (LOOP F FU (enc x a c d t)) :=
  LOOP_up (τ := α × γ × δ × τ) (fun x t => enc x t.1 t.2.1 t.2.2.1 t.2.2.2) n hn (fun x t => J x t.1 t.2.1 t.2.2.1 t.2.2.2) Q (fun x t ag h1 h2 ih => step x t.1 t.2.1 t.2.2.1 t.2.2.2 ag h1 h2 (fun a' c' d' t' h => ih (a', c', d', t') h)) (fun t ag h => exit t.1 t.2.1 t.2.2.1 t.2.2.2 ag h) x (a, c, d, t) hx hJ
set_option maxHeartbeats 1000000 in
theorem MD_picture_wp {σ : Sg} {M : Mem} (v a b k : Int32) (hw : WF σ) (h : RM M σ) : wp (MD_picture v a b k M) (EM (R_picture σ v a b k) M) := by
  have hn : M 33 8 = nI σ.1 := h.1
  have h7 : σ.1 ≤ 7 := hw.2.1
  unfold MD_picture R_picture
  refine wp_bnd2 (MD_opens_wp (Or.inl rfl) hw.1 hw.2.1 hn) (fun r M1 hr => ?_)
  obtain ⟨f1, hr⟩ := hr
  have g1 : Fr SMR M M1 := f1.mo SMR50
  have h1 := h.fr g1
  rw [jp_e]
  rcases hr with ⟨p, e, e2, hp⟩ | ⟨e, e2⟩
  · have hR := (opn_some e).1
    have ht := hR.top7
    have htp := top_pos (p := p) (show 0 < σ.1 from hw.1)
    simp only at e2
    have eI : ∀ w : Int32, MD_isIn w.toInt64 0 ((nI (top p σ.1) - 1).toInt64) = some (cI (inrB w (top p σ.1) = true)) := fun w => by
      obtain ⟨q, hq⟩ : ∃ q, top p σ.1 = q + 1 := ⟨top p σ.1 - 1, by omega⟩
      rw [hq]; exact MD_isIn_nI (by omega)
    rw [e, e2, if_neg (nI_pos (by omega)), eI, eI, MD_isKind_eq]
    simp only [bind_s, cI_0]
    by_cases c1 : inrB a (top p σ.1) = true
    · by_cases c2 : inrB b (top p σ.1) = true
      · by_cases c3 : inrB k 3 = true
        · simp only [c1, c2, c3, not_true_eq_false, if_false, if_true, and_true]
          rw [h1.2.1]
          obtain ⟨a', ha, rfl⟩ := inr_of (inrB_iff.mp c1) (by omega)
          obtain ⟨b', hb, rfl⟩ := inr_of (inrB_iff.mp c2) (by omega)
          obtain ⟨k', hk, rfl⟩ := inr_of (inrB_iff.mp c3) (by omega)
          rw [nat3 (by omega), nat3 (by omega), nat3 (by omega)]
          refine wp_bind (MD_look hw.2.2.1 hw h1) (fun M2 hM2 => ?_)
          obtain ⟨f2, t2⟩ := hM2
          have g2 := f2.mo SMR49
          have h2 := h1.fr g2
          have hn2 : M2 33 8 = nI σ.1 := h2.1
          have hp2 : AR M2 50 σ.1 p := hp.fr (f2 50 (by decide))
          have h0 : ∀ x, x < σ.1 → sg (sS σ) k' x x = 0 := fun x hx => (TWF.of hw).2.2.2 k' x x hk (by omega) (by omega) (Or.inl rfl)
          obtain ⟨S, hS⟩ : ∃ S, S = sS σ := ⟨_, rfl⟩
          have t2' : Tbl M2 49 S := by rw [hS]; exact t2
          rw [← hS] at h0 ⊢
          have hpm := pict_md (b := b') h7 hR ha h0
          obtain ⟨A, hA⟩ : ∃ A, A = pict S σ.1 p a' b' k' := ⟨_, rfl⟩
          rw [← hA] at hpm ⊢
          have hend := em_ok (a := nI A) h2 (g1.tr g2).lo
          generalize hnn : σ.1 = n at h7 hn2 hp2 h0 hpm ⊢
          have hR' : RGS n p := by rw [← hnn]; exact hR
          have hp7 : ∀ z, z < n → p z < 100 := fun z hz => by have := hR'.ltn z hz; omega
          have hat : a' < 100 := by omega
          have hbt : b' < 100 := by omega
          have hct : ∀ x, ct S n p k' x b' ≤ n := fun x => ct_le
          have hsl : ∀ x, slt n p x b' ≤ n := fun x => by
            have := sm_le (n := n) (b := 1) (f := fun z => if z ≠ x ∧ p z = b' then 1 else 0) (fun z _ => ite01 _)
            unfold slt; omega
          have hT : ∀ x, x ≤ n → sm x (fun x => if p x = a' then ct S n p k' x b' else 0) ≤ 49 := fun x hx => by
            have := sm_le (n := x) (b := 7) (f := fun x => if p x = a' then ct S n p k' x b' else 0) (fun z _ => by have := hct z; split <;> omega)
            omega
          have hL : ∀ x, x ≤ n → sm x (fun x => if p x = a' then slt n p x b' else 0) ≤ 49 := fun x hx => by
            have := sm_le (n := x) (b := 7) (f := fun x => if p x = a' then slt n p x b' else 0) (fun z _ => by have := hsl z; split <;> omega)
            omega
          refine LOOP_up4 (fun x (q1 q2 q3 q4 : Int32) => (q1, q2, q3, q4, nI x)) n (by omega) (fun x q1 q2 q3 q4 => q1 = nI (mnA p (fun x => ct S n p k' x b') a' 100 x) ∧ q2 = nI (mxA p (fun x => ct S n p k' x b') a' x) ∧ q3 = nI (sm x (fun x => if p x = a' then slt n p x b' else 0)) ∧ q4 = nI (sm x (fun x => if p x = a' then ct S n p k' x b' else 0))) (fun o => wp o _) ?_ ?_ 0 (nI 100) (nI 0) (nI 0) (nI 0) (by omega) ⟨rfl, rfl, rfl, rfl⟩
          · rintro x q1 q2 q3 q4 ag hx ⟨rfl, rfl, rfl, rfl⟩ ih
            have l1 := (mnA_le p (fun x => ct S n p k' x b') a' 100 x).1
            have l2 := mxA_le (p := p) (f := fun x => ct S n p k' x b') (a := a') (b := n) (fun x => ct_le) x
            have l3 := hL x (by omega)
            have l4 := hT x (by omega)
            have l5 := hct x
            have hpx := hp7 x hx
            show wp (MD_picture_L82 (nI a') (nI b') (nI k') M2 _ ag _ _ _ _ (nI x)) _
            unfold MD_picture_L82
            rw [hn2, if_neg (by rw [nI_leI (by omega) (by omega)]; omega), if_pos ((inb_nI (by omega)).mpr (by omega)), rd_nI (by omega), hp2 x hx]
            simp only [nI_eq (show p x < 2 ^ 31 by omega) (show a' < 2 ^ 31 by omega)]
            by_cases ex : p x = a'
            · rw [if_pos ex]
              refine LOOP_up2 (fun z (q1 q2 : Int32) => (q1, q2, nI z)) n (by omega) (fun z q1 q2 => q1 = nI (sm x (fun x => if p x = a' then slt n p x b' else 0) + sm z (fun z => if z ≠ x ∧ p z = b' then 1 else 0)) ∧ q2 = nI (sm z (fun z => if p z = b' ∧ 0 < sg S k' x z then 1 else 0))) (fun o => wp o _) ?_ ?_ 0 _ (nI 0) (by omega) ⟨rfl, rfl⟩
              · rintro z q1 q2 ag' hz ⟨rfl, rfl⟩ ih'
                have hpz := hp7 z hz
                show wp (MD_picture_L111 (nI b') (nI k') (nI x) M2 _ ag' _ _ (nI z)) _
                unfold MD_picture_L111
                rw [hn2, if_neg (by rw [nI_leI (by omega) (by omega)]; omega), if_pos ((inb_nI (by omega)).mpr (by omega)), rd_nI (by omega), hp2 z hz, MD_has_eq t2' hk (by omega) (by omega), bind_s]
                simp (disch := omega) only [nI_eq, i32lit, nI_add, cI_n0, nm_e']
                by_cases c : z = x
                · rw [if_pos c]
                  refine ih' _ _ ⟨?_, ?_⟩
                  · rw [sm_s, if_neg (fun w => w.1 c)]; rfl
                  · rw [sm_s, if_neg (fun w => by have := h0 x hx; rw [c] at w; omega)]; rfl
                · rw [if_neg c]
                  by_cases c4 : p z = b'
                  · rw [if_pos c4]
                    by_cases c5 : 0 < sg S k' x z
                    · rw [if_neg (not_not_intro c5)]
                      refine ih' _ _ ⟨?_, ?_⟩
                      · rw [sm_s, if_pos ⟨c, c4⟩]; rfl
                      · rw [sm_s, if_pos ⟨c4, c5⟩]
                    · rw [if_pos c5]
                      refine ih' _ _ ⟨?_, ?_⟩
                      · rw [sm_s, if_pos ⟨c, c4⟩]; rfl
                      · rw [sm_s, if_neg (fun w => c5 w.2)]
                  · rw [if_neg c4]
                    refine ih' _ _ ⟨?_, ?_⟩
                    · rw [sm_s, if_neg (fun w => c4 w.2)]; rfl
                    · rw [sm_s, if_neg (fun w => c4 w.1)]; rfl
              · rintro q1 q2 ag' ⟨rfl, rfl⟩
                show wp (MD_picture_L111 (nI b') (nI k') (nI x) M2 _ ag' _ _ (nI n)) _
                unfold MD_picture_L111
                rw [hn2, if_pos (by rw [nI_leI (by omega) (by omega)]; omega)]
                have ec : sm n (fun z => if p z = b' ∧ 0 < sg S k' x z then 1 else 0) = ct S n p k' x b' := rfl
                have es : sm n (fun z => if z ≠ x ∧ p z = b' then 1 else 0) = slt n p x b' := rfl
                rw [ec, es]
                simp (disch := omega) only [nm_e', jp_e, nI_add, nI_leI, i32lit]
                have hgo : ∀ q1 q2, q1 = mnA p (fun x => ct S n p k' x b') a' 100 (x + 1) → q2 = mxA p (fun x => ct S n p k' x b') a' (x + 1) → wp (ag (nI q1, nI q2, nI (sm x (fun x => if p x = a' then slt n p x b' else 0) + slt n p x b'), nI (sm x (fun x => if p x = a' then ct S n p k' x b' else 0) + ct S n p k' x b'), nI (x + 1))) (EM (σ, nI A) M) := fun q1 q2 e1 e2 => by
                  refine ih _ _ _ _ ⟨by rw [e1], by rw [e2], ?_, ?_⟩
                  · rw [sm_s, if_pos ex]
                  · rw [sm_s, if_pos ex]
                rw [mnA_s, mxA_s, if_pos ex, if_pos ex] at hgo
                by_cases d1 : mnA p (fun x => ct S n p k' x b') a' 100 x ≤ ct S n p k' x b' <;> by_cases d2 : ct S n p k' x b' ≤ mxA p (fun x => ct S n p k' x b') a' x
                · rw [if_pos d1, if_pos d2]
                  exact hgo _ _ (by omega) (by omega)
                · rw [if_pos d1, if_neg d2]
                  exact hgo _ _ (by omega) (by omega)
                · rw [if_neg d1, if_pos d2]
                  exact hgo _ _ (by omega) (by omega)
                · rw [if_neg d1, if_neg d2]
                  exact hgo _ _ (by omega) (by omega)
            · rw [if_neg ex, show (1 : Int32) = nI 1 from rfl, nI_add]
              refine ih _ _ _ _ ⟨?_, ?_, ?_, ?_⟩
              · rw [mnA_s, if_neg ex]
              · rw [mxA_s, if_neg ex]
              · rw [sm_s, if_neg ex]; rfl
              · rw [sm_s, if_neg ex]; rfl
          · rintro q1 q2 q3 q4 ag ⟨rfl, rfl, rfl, rfl⟩
            have l1 := (mnA_le p (fun x => ct S n p k' x b') a' 100 n).1
            have l2 := mxA_le (p := p) (f := fun x => ct S n p k' x b') (a := a') (b := n) (fun x => ct_le) n
            have l3 := hL n (by omega)
            have l4 := hT n (by omega)
            show wp (MD_picture_L82 (nI a') (nI b') (nI k') M2 _ ag _ _ _ _ (nI n)) _
            unfold MD_picture_L82
            rw [hn2, if_pos (by rw [nI_leI (by omega) (by omega)]; omega)]
            simp (disch := omega) only [i32lit, nI_eq, nI_leI, Nat.le_zero]
            have hfin : ∀ q, q = A → wp (some (nI q, M2)) (EM (σ, nI A) M) := fun q hq => by
              rw [hq]; exact wp_some hend
            by_cases d1 : sm n (fun x => if p x = a' then ct S n p k' x b' else 0) = 0
            · rw [if_pos d1] at hpm ⊢
              exact hfin _ hpm
            rw [if_neg d1] at hpm ⊢
            by_cases d2 : sm n (fun x => if p x = a' then ct S n p k' x b' else 0) = sm n (fun x => if p x = a' then slt n p x b' else 0)
            · rw [if_pos d2] at hpm ⊢
              exact hfin _ hpm
            rw [if_neg d2] at hpm ⊢
            by_cases d3 : mnA p (fun x => ct S n p k' x b') a' 100 n = mxA p (fun x => ct S n p k' x b') a' n
            · rw [if_pos d3] at hpm ⊢
              exact hfin _ hpm
            rw [if_neg d3] at hpm ⊢
            by_cases d4 : mnA p (fun x => ct S n p k' x b') a' 100 n = 0
            · rw [if_pos d4] at hpm ⊢
              exact hfin _ hpm
            rw [if_neg d4] at hpm ⊢
            exact hfin _ hpm
        · simp only [c1, c2, c3, not_true_eq_false, not_false_eq_true, if_false, if_true, and_false]
          exact MD_no1 h1 g1.lo
      · simp only [c1, c2, not_true_eq_false, not_false_eq_true, if_false, if_true, and_false, false_and]
        exact MD_no1 h1 g1.lo
    · simp only [c1, not_false_eq_true, if_false, if_true, false_and]
      exact MD_no1 h1 g1.lo
  · simp only at e2
    rw [e, e2, if_pos m1_neg]
    exact MD_no1 h1 g1.lo
