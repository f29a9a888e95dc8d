/-! by hand: kinds of sameness of two persons -/
def al : Nat → (Nat → Bool) → Bool
  | 0, _ => true
  | n + 1, P => al n P && P n
theorem al_s (n : Nat) (P : Nat → Bool) : al (n + 1) P = (al n P && P n) := rfl
theorem al_iff {P : Nat → Bool} : ∀ {n : Nat}, al n P = true ↔ ∀ x, x < n → P x = true
  | 0 => ⟨fun _ x h => absurd h (Nat.not_lt_zero _), fun _ => rfl⟩
  | n + 1 => by
    rw [al_s, Bool.and_eq_true, al_iff (n := n)]
    constructor
    · rintro ⟨h1, h2⟩ x hx
      by_cases e : x = n
      · subst e; exact h2
      · exact h1 x (by omega)
    · intro h
      exact ⟨fun x hx => h x (by omega), h n (by omega)⟩
theorem al_f {P : Nat → Bool} {n z : Nat} (hz : z < n) (h : P z = false) : al n P = false := by
  cases e : al n P with
  | false => rfl
  | true => rw [al_iff.mp e z hz] at h; cases h
theorem al_le {P : Nat → Bool} {n m : Nat} (hm : m ≤ n) (h : al m P = false) : al n P = false := by
  cases e : al n P with
  | false => rfl
  | true =>
    rw [al_iff.mpr (fun x hx => al_iff.mp e x (by omega))] at h; cases h
theorem al_cg {P Q : Nat → Bool} {n : Nat} (h : ∀ x, x < n → P x = Q x) : al n P = al n Q := by
  induction n with
  | zero => rfl
  | succ n ih => rw [al_s, al_s, ih (fun x hx => h x (by omega)), h n (by omega)]
/-- strengths alike: exactly, or both there -/
def mtB (ex : Bool) (a b : Nat) : Bool := if ex then a == b else (decide (0 < a) == decide (0 < b))
def swC (S : Nat → Nat) (ex : Bool) (x y k z : Nat) : Bool := z == x || z == y || (mtB ex (sg S k x z) (sg S k y z) && mtB ex (sg S k z x) (sg S k z y))
def swR (S : Nat → Nat) (n : Nat) (ex : Bool) (x y k : Nat) : Bool := mtB ex (sg S k x y) (sg S k y x) && al n (swC S ex x y k)
def swB (S : Nat → Nat) (n : Nat) (ex : Bool) (x y : Nat) : Bool := al 3 (swR S n ex x y)
def ld (S : Nat → Nat) (n : Nat) (p : Nat → Nat) (k x q : Nat) (b : Bool) : Nat := sm n (fun z => if p z = q ∧ (if b then 0 < sg S k z x else 0 < sg S k x z) then 1 else 0)
def sn (cnt : Bool) (c : Nat) : Nat := if cnt then c else if 0 < c then 1 else 0
def ldC (S : Nat → Nat) (n : Nat) (p : Nat → Nat) (cnt : Bool) (x y k q : Nat) : Bool := sn cnt (ld S n p k x q false) == sn cnt (ld S n p k y q false) && sn cnt (ld S n p k x q true) == sn cnt (ld S n p k y q true)
def ldB (S : Nat → Nat) (n : Nat) (p : Nat → Nat) (cnt : Bool) (x y : Nat) : Bool := al 3 (fun k => al n (ldC S n p cnt x y k))
/-- x and y are so, by kind of sameness and parting -/
def soB (S : Nat → Nat) (n : Nat) (ma : Nat → Nat) (p : Nat → Nat) (kd x y : Nat) : Bool :=
  ma x == ma y && (if kd = 0 then true else if kd = 1 then swB S n false x y else if kd = 2 then swB S n true x y else ldB S n p (kd == 4) x y)
theorem ite01 (q : Prop) [Decidable q] : (if q then 1 else 0) ≤ 1 := by split <;> omega
theorem sn_le {cnt : Bool} {c b : Nat} (h : c ≤ b) (hb : 1 ≤ b) : sn cnt c ≤ b := by
  unfold sn; split
  · exact h
  · split <;> omega
theorem ld_le {S : Nat → Nat} {n : Nat} {p : Nat → Nat} {k x q : Nat} {b : Bool} : ld S n p k x q b ≤ n := by
  have := sm_le (n := n) (b := 1) (f := fun z => if p z = q ∧ (if b then 0 < sg S k z x else 0 < sg S k x z) then 1 else 0) (fun z _ => ite01 _)
  unfold ld
  omega
theorem Sa_match_eq {a b : Nat} {ex : Bool} (ha : a < 100) (hb : b < 100) : Sa_match (nI a) (nI b) (cI (ex = true)) = some (cI (mtB ex a b = true)) := by
  unfold Sa_match mtB
  rw [jp_e]
  simp (disch := omega) only [jp_e, cI_0, nI_pos_iff, nI_eq]
  cases ex with
  | false =>
    simp only [Bool.false_eq_true, not_false_eq_true, if_true, if_false]
    by_cases h1 : a = 0 <;> by_cases h2 : b = 0 <;> simp [h1, h2, cI, show ∀ n : Nat, n ≠ 0 → 0 < n from fun n h => Nat.pos_of_ne_zero h]
  | true =>
    simp only [not_true_eq_false, if_false, if_true, beq_iff_eq]
    unfold cI
    split <;> rfl
theorem sg_lt {M : Mem} {k0 : Nat} {S : Nat → Nat} {k x z : Nat} (h : Tbl M k0 S) (hk : k < 3) (hx : x < 7) (hz : z < 7) : sg S k x z < 100 := by have := sg_le h hk hx hz; omega
theorem cI_b (b : Bool) : cI (b = true) = if b then 1 else 0 := by cases b <;> rfl
theorem cI_bt : cI (true = true) = 1 := rfl
theorem cI_bf : cI (false = true) = 0 := rfl
theorem b_f {b : Bool} (h : ¬ b = true) : b = false := by cases b with
  | false => rfl
  | true => exact absurd rfl h
set_option maxHeartbeats 1000000 in
theorem Sa_swappable_eq {M : Mem} {S : Nat → Nat} {n x y : Nat} {ex : Bool} (h : Tbl M 3 S) (hn : M 1 2 = nI n) (h7 : n ≤ 7) (hx : x < 7) (hy : y < 7) : Sa_swappable (nI x) (nI y) (cI (ex = true)) M = some (cI (swB S n ex x y = true)) := by
  unfold Sa_swappable
  refine LOOP_up (fun k (_ : Unit) => nI k) 3 (by omega) (fun k _ => ∀ j, j < k → swR S n ex x y j = true) (fun o => o = _) ?_ ?_ 0 () (by omega) (fun j hj => by omega)
  · rintro k - ag hk hJ ih
    show Sa_swappable_L3 _ _ _ M _ ag (nI k) = _
    unfold Sa_swappable_L3
    rw [show (3 : Int32) = nI 3 from rfl]
    simp (disch := omega) only [nI_leI, show ¬ 3 ≤ k by omega, if_false]
    rw [To_strength_eq h hk hx hy, bind_s, To_strength_eq h hk hy hx, bind_s, Sa_match_eq (sg_lt h hk hx hy) (sg_lt h hk hy hx), bind_s]
    have hend : ∀ b : Bool, b = swR S n ex x y k → (if cI (b = true) = 0 then some 0 else ag (nI k + 1)) = some (cI (swB S n ex x y = true)) := by
      intro b hb
      cases b with
      | false =>
        have : swB S n ex x y = false := al_f hk hb.symm
        rw [this]; rfl
      | true =>
        rw [cI_bt, if_neg one_ne0, show (1 : Int32) = nI 1 from rfl, nI_add]
        refine ih () (fun j hj => ?_)
        by_cases e : j = k
        · subst e; exact hb.symm
        · exact hJ j (by omega)
    let m0 := mtB ex (sg S k x y) (sg S k y x)
    refine LOOP_up (fun z (b : Bool) => (cI (b = true), nI z)) n (by omega) (fun z b => b = (m0 && al z (swC S ex x y k))) (fun o => o = _) ?_ ?_ 0 m0 (by omega) (by simp [al])
    · intro z b ag' hz hb ih'
      show Sa_swappable_L34 _ _ _ _ M _ ag' (cI (b = true)) (nI z) = _
      unfold Sa_swappable_L34
      rw [hn]
      simp (disch := omega) only [nI_leI, show ¬ n ≤ z by omega, if_false, nI_eq]
      cases b with
      | false =>
        rw [cI_bf, if_pos rfl]
        refine hend false ?_
        unfold swR
        show false = (m0 && al n (swC S ex x y k))
        cases hm : m0 with
        | false => rfl
        | true =>
          rw [hm] at hb
          rw [al_le (Nat.le_of_lt hz) (by simpa using hb.symm)]; rfl
      | true =>
        rw [cI_bt, if_neg one_ne0, show (1 : Int32) = nI 1 from rfl, nI_add]
        have hgo : ∀ c : Bool, c = swC S ex x y k z → ag' (cI (c = true), nI (z + 1)) = _ := fun c hc => ih' c (by
          rw [al_s, ← hc, ← Bool.and_assoc, ← hb, Bool.true_and])
        have ht : ∀ c : Bool, c = true → cI (c = true) = nI 1 := fun c hc => by subst hc; rfl
        by_cases e1 : z = x
        · rw [if_pos e1]
          exact hgo true (by unfold swC; simp [e1])
        · rw [if_neg e1]
          by_cases e2 : z = y
          · rw [if_pos e2]
            exact hgo true (by unfold swC; simp [e2])
          · rw [if_neg e2, To_strength_eq h hk hx (by omega), bind_s, To_strength_eq h hk hy (by omega), bind_s, Sa_match_eq (sg_lt h hk hx (by omega)) (sg_lt h hk hy (by omega)), bind_s]
            cases c1 : mtB ex (sg S k x z) (sg S k y z) with
            | false =>
              rw [cI_bf, if_pos rfl]
              exact hgo false (by unfold swC; simp [e1, e2, c1])
            | true =>
              rw [cI_bt, if_neg one_ne0, To_strength_eq h hk (by omega) hx, bind_s, To_strength_eq h hk (by omega) hy, bind_s, Sa_match_eq (sg_lt h hk (by omega) hx) (sg_lt h hk (by omega) hy), bind_s]
              cases c2 : mtB ex (sg S k z x) (sg S k z y) with
              | false =>
                rw [cI_bf, if_pos rfl]
                exact hgo false (by unfold swC; simp [e1, e2, c1, c2])
              | true =>
                rw [cI_bt, if_neg one_ne0]
                exact hgo true (by unfold swC; simp [e1, e2, c1, c2])
    · intro b ag' hb
      show Sa_swappable_L34 _ _ _ _ M _ ag' (cI (b = true)) (nI n) = _
      unfold Sa_swappable_L34
      rw [hn]
      simp (disch := omega) only [nI_leI, Nat.le_refl, if_true]
      exact hend b hb
  · rintro - ag hJ
    show Sa_swappable_L3 _ _ _ M _ ag (nI 3) = _
    unfold Sa_swappable_L3
    rw [if_pos (by decide), show swB S n ex x y = true from al_iff.mpr hJ]; rfl
/-! the reference -/
theorem MD_seen_eq {a : Nat} {ex : Bool} (ha : a < 2 ^ 31) : MD_seen (nI a) (cI (ex = true)) = some (nI (sn ex a)) := by
  unfold MD_seen sn
  simp (disch := omega) only [cI_0, nI_pos_iff]
  cases ex with
  | false =>
    simp only [Bool.false_eq_true, not_false_eq_true, if_true, if_false]
    by_cases h1 : a = 0
    · rw [if_pos h1, if_neg (by omega)]; rfl
    · rw [if_neg h1, if_pos (by omega)]; rfl
  | true =>
    simp only [not_true_eq_false, if_false, if_true]
theorem sn_mt {ex : Bool} {a b : Nat} : (sn ex a = sn ex b) ↔ mtB ex a b = true := by
  unfold sn mtB
  cases ex with
  | false =>
    by_cases h1 : a = 0 <;> by_cases h2 : b = 0 <;> simp [h1, h2, show ∀ n : Nat, n ≠ 0 → 0 < n from fun n h => Nat.pos_of_ne_zero h]
  | true => simp
set_option maxHeartbeats 1000000 in
theorem MD_areTied_eq {M : Mem} {S : Nat → Nat} {n x y : Nat} {ex : Bool} (h : Tbl M 49 S) (hn : M 33 8 = nI n) (h7 : n ≤ 7) (hx : x < 7) (hy : y < 7) : MD_areTied (nI x) (nI y) (cI (ex = true)) M = some (cI (swB S n ex x y = true)) := by
  unfold MD_areTied
  refine LOOP_up (fun k (_ : Unit) => nI k) 3 (by omega) (fun k _ => ∀ j, j < k → swR S n ex x y j = true) (fun o => o = _) ?_ ?_ 0 () (by omega) (fun j hj => by omega)
  · rintro k - ag hk hJ ih
    show MD_areTied_L3 _ _ _ M _ ag (nI k) = _
    unfold MD_areTied_L3
    have hs := fun {a b : Nat} (ha : a < 7) (hb : b < 7) => sg_lt h hk ha hb
    have hsn := fun {a b : Nat} (ha : a < 7) (hb : b < 7) => sn_le (cnt := ex) (b := 100) (c := sg S k a b) (by have := hs ha hb; omega) (by omega)
    have hbad : swR S n ex x y k = false → some (0 : Int32) = some (cI (swB S n ex x y = true)) := fun hb => by
      have : swB S n ex x y = false := al_f hk hb
      rw [this]; rfl
    rw [show (3 : Int32) = nI 3 from rfl]
    simp (disch := omega) only [nI_leI, show ¬ 3 ≤ k by omega, if_false]
    have b1 := hs hx hy
    have b2 := hs hy hx
    have b3 := hsn hx hy
    have b4 := hsn hy hx
    rw [MD_strong_eq h hk hx hy, bind_s, MD_seen_eq (by omega), bind_s, MD_strong_eq h hk hy hx, bind_s, MD_seen_eq (by omega), bind_s]
    simp (disch := omega) only [nI_eq, sn_mt]
    by_cases hm : mtB ex (sg S k x y) (sg S k y x) = true
    · rw [if_pos hm]
      refine LOOP_up (fun z (_ : Unit) => nI z) n (by omega) (fun z _ => ∀ j, j < z → swC S ex x y k j = true) (fun o => o = _) ?_ ?_ 0 () (by omega) (fun j hj => by omega)
      · rintro z - ag' hz hJ' ih'
        show MD_areTied_L41 _ _ _ _ M _ ag' (nI z) = _
        unfold MD_areTied_L41
        have hz7 : z < 7 := by omega
        have hbadz : swC S ex x y k z = false → some (0 : Int32) = some (cI (swB S n ex x y = true)) := fun hb => hbad (by unfold swR; rw [al_f hz hb]; simp)
        have hgo : swC S ex x y k z = true → ag' (nI z + 1) = some (cI (swB S n ex x y = true)) := fun hb => by
          rw [show (1 : Int32) = nI 1 from rfl, nI_add]
          refine ih' () (fun j hj => ?_)
          by_cases e : j = z
          · subst e; exact hb
          · exact hJ' j (by omega)
        rw [hn]
        simp (disch := omega) only [nI_leI, show ¬ n ≤ z by omega, if_false, nI_eq]
        by_cases e1 : z = x
        · rw [if_pos e1]
          exact hgo (by unfold swC; simp [e1])
        · rw [if_neg e1]
          by_cases e2 : z = y
          · rw [if_pos e2]
            exact hgo (by unfold swC; simp [e2])
          · have c1 := hs hx hz7
            have c2 := hs hy hz7
            have c3 := hs hz7 hx
            have c4 := hs hz7 hy
            have d1 := hsn hx hz7
            have d2 := hsn hy hz7
            have d3 := hsn hz7 hx
            have d4 := hsn hz7 hy
            rw [if_neg e2, MD_strong_eq h hk hx hz7, bind_s, MD_seen_eq (by omega), bind_s, MD_strong_eq h hk hy hz7, bind_s, MD_seen_eq (by omega), bind_s, MD_strong_eq h hk hz7 hx, bind_s, MD_seen_eq (by omega), bind_s, MD_strong_eq h hk hz7 hy, bind_s, MD_seen_eq (by omega), bind_s]
            simp (disch := omega) only [nI_eq, sn_mt]
            by_cases q1 : mtB ex (sg S k x z) (sg S k y z) = true
            · rw [if_pos q1]
              by_cases q2 : mtB ex (sg S k z x) (sg S k z y) = true
              · rw [if_pos q2]
                exact hgo (by unfold swC; simp [q1, q2])
              · rw [if_neg q2]
                exact hbadz (by unfold swC; simp [e1, e2, q1, b_f q2])
            · rw [if_neg q1]
              exact hbadz (by unfold swC; simp [e1, e2, b_f q1])
      · rintro - ag' hJ'
        show MD_areTied_L41 _ _ _ _ M _ ag' (nI n) = _
        unfold MD_areTied_L41
        rw [hn]
        simp (disch := omega) only [nI_leI, Nat.le_refl, if_true]
        rw [show (1 : Int32) = nI 1 from rfl, nI_add]
        refine ih () (fun j hj => ?_)
        by_cases e : j = k
        · subst e; unfold swR; rw [hm, al_iff.mpr hJ']; rfl
        · exact hJ j (by omega)
    · rw [if_neg hm]
      exact hbad (by unfold swR; rw [b_f hm]; rfl)
  · rintro - ag hJ
    show MD_areTied_L3 _ _ _ M _ ag (nI 3) = _
    unfold MD_areTied_L3
    rw [if_pos (by decide), show swB S n ex x y = true from al_iff.mpr hJ]; rfl
theorem MD_led_eq {M : Mem} {S : Nat → Nat} {n k x q : Nat} {p : Nat → Nat} {b : Bool} (h : Tbl M 49 S) (hn : M 33 8 = nI n) (h7 : n ≤ 7) (hp : AR M 50 n p) (hp7 : ∀ z, z < n → p z < 100) (hk : k < 3) (hx : x < 7) (hq : q < 100) : MD_led (nI k) (nI x) (nI q) (cI (b = true)) M = some (nI (ld S n p k x q b)) := by
  unfold MD_led
  refine LOOP_fun (fun z => (nI (ld S z p k x q b), nI z)) n (by omega) (fun _ => some (nI (ld S n p k x q b))) ?_ ?_ 0 (Nat.zero_le _)
  · intro z ag hz ih
    show MD_led_L6 _ _ _ _ M _ ag _ (nI z) = _
    unfold MD_led_L6
    have hpz := hp7 z hz
    rw [hn]
    simp (disch := omega) only [nI_leI, show ¬ n ≤ z by omega, if_false, inb_nI, show z < 7 by omega, if_true, rd_nI, hp z hz, nI_eq, cI_0]
    have es : ld S (z + 1) p k x q b = ld S z p k x q b + if p z = q ∧ (if b then 0 < sg S k z x else 0 < sg S k x z) then 1 else 0 := rfl
    rw [es] at ih
    by_cases e : p z = q
    · rw [if_pos e]
      cases b with
      | false =>
        rw [if_pos (by simp), MD_has_eq h hk hx (by omega), bind_s]
        simp only [cI_0, nm_e', add0]
        by_cases c : 0 < sg S k x z
        · rw [if_neg (not_not_intro c)]
          rw [if_pos ⟨e, by simpa using c⟩] at ih
          rw [show (1 : Int32) = nI 1 from rfl, nI_add, nI_add]; exact ih
        · rw [if_pos c]
          rw [if_neg (fun z => c (by simpa using z.2))] at ih
          rw [show (1 : Int32) = nI 1 from rfl, nI_add]; exact ih
      | true =>
        rw [if_neg (by simp), MD_has_eq h hk (by omega) hx, bind_s]
        simp only [cI_0, nm_e', add0]
        by_cases c : 0 < sg S k z x
        · rw [if_neg (not_not_intro c)]
          rw [if_pos ⟨e, by simpa using c⟩] at ih
          rw [show (1 : Int32) = nI 1 from rfl, nI_add, nI_add]; exact ih
        · rw [if_pos c]
          rw [if_neg (fun z => c (by simpa using z.2))] at ih
          rw [show (1 : Int32) = nI 1 from rfl, nI_add]; exact ih
    · rw [if_neg e, nm_e', add0, show (1 : Int32) = nI 1 from rfl, nI_add]
      rw [if_neg (fun z => e z.1)] at ih
      exact ih
  · intro ag
    show MD_led_L6 _ _ _ _ M _ ag _ (nI n) = _
    unfold MD_led_L6
    rw [hn]
    simp (disch := omega) only [nI_leI, Nat.le_refl, if_true]
set_option maxHeartbeats 1000000 in
theorem MD_areLed_eq {M : Mem} {S : Nat → Nat} {n x y : Nat} {p : Nat → Nat} {cnt : Bool} (h : Tbl M 49 S) (hn : M 33 8 = nI n) (h7 : n ≤ 7) (hp : AR M 50 n p) (hp7 : ∀ z, z < n → p z < 100) (hx : x < 7) (hy : y < 7) : MD_areLed (nI x) (nI y) (cI (cnt = true)) M = some (cI (ldB S n p cnt x y = true)) := by
  unfold MD_areLed
  refine LOOP_up (fun k (_ : Unit) => nI k) 3 (by omega) (fun k _ => ∀ j, j < k → al n (ldC S n p cnt x y j) = true) (fun o => o = _) ?_ ?_ 0 () (by omega) (fun j hj => by omega)
  · rintro k - ag hk hJ ih
    show MD_areLed_L3 _ _ _ M _ ag (nI k) = _
    unfold MD_areLed_L3
    rw [show (3 : Int32) = nI 3 from rfl]
    simp (disch := omega) only [nI_leI, show ¬ 3 ≤ k by omega, if_false]
    refine LOOP_up (fun q (_ : Unit) => nI q) n (by omega) (fun q _ => ∀ j, j < q → ldC S n p cnt x y k j = true) (fun o => o = _) ?_ ?_ 0 () (by omega) (fun j hj => by omega)
    · rintro q - ag' hq hJ' ih'
      show MD_areLed_L12 _ _ _ _ M _ ag' (nI q) = _
      unfold MD_areLed_L12
      have hl := fun (u : Nat) (b : Bool) => ld_le (S := S) (n := n) (p := p) (k := k) (x := u) (q := q) (b := b)
      have hbad : ldC S n p cnt x y k q = false → some (0 : Int32) = some (cI (ldB S n p cnt x y = true)) := fun hb => by
        have : ldB S n p cnt x y = false := al_f hk (al_f hq hb)
        rw [this]; rfl
      have e0 : (0 : Int32) = cI (false = true) := rfl
      have e1 : (1 : Int32) = cI (true = true) := rfl
      have l1 := hl x false
      have l2 := hl y false
      have l3 := hl x true
      have l4 := hl y true
      have s1 := sn_le (cnt := cnt) (b := 7) (Nat.le_trans l1 h7) (by omega)
      have s2 := sn_le (cnt := cnt) (b := 7) (Nat.le_trans l2 h7) (by omega)
      have s3 := sn_le (cnt := cnt) (b := 7) (Nat.le_trans l3 h7) (by omega)
      have s4 := sn_le (cnt := cnt) (b := 7) (Nat.le_trans l4 h7) (by omega)
      rw [hn]
      simp (disch := omega) only [nI_leI, show ¬ n ≤ q by omega, if_false]
      have r1 := MD_led_eq (b := false) h hn h7 hp hp7 hk hx (show q < 100 by omega)
      have r2 := MD_led_eq (b := false) h hn h7 hp hp7 hk hy (show q < 100 by omega)
      have r3 := MD_led_eq (b := true) h hn h7 hp hp7 hk hx (show q < 100 by omega)
      have r4 := MD_led_eq (b := true) h hn h7 hp hp7 hk hy (show q < 100 by omega)
      rw [cI_bf] at r1 r2
      rw [cI_bt] at r3 r4
      rw [r1, bind_s, MD_seen_eq (by omega), bind_s, r2, bind_s, MD_seen_eq (by omega), bind_s, r3, bind_s, MD_seen_eq (by omega), bind_s, r4, bind_s, MD_seen_eq (by omega), bind_s]
      simp (disch := omega) only [nI_eq]
      by_cases q1 : sn cnt (ld S n p k x q false) = sn cnt (ld S n p k y q false)
      · rw [if_pos q1]
        by_cases q2 : sn cnt (ld S n p k x q true) = sn cnt (ld S n p k y q true)
        · rw [if_pos q2, show (1 : Int32) = nI 1 from rfl, nI_add]
          refine ih' () (fun j hj => ?_)
          by_cases e : j = q
          · subst e; unfold ldC; simp [q1, q2]
          · exact hJ' j (by omega)
        · rw [if_neg q2]
          exact hbad (by unfold ldC; simp [q2])
      · rw [if_neg q1]
        exact hbad (by unfold ldC; simp [q1])
    · rintro - ag' hJ'
      show MD_areLed_L12 _ _ _ _ M _ ag' (nI n) = _
      unfold MD_areLed_L12
      rw [hn]
      simp (disch := omega) only [nI_leI, Nat.le_refl, if_true]
      rw [show (1 : Int32) = nI 1 from rfl, nI_add]
      refine ih () (fun j hj => ?_)
      by_cases e : j = k
      · subst e; exact al_iff.mpr hJ'
      · exact hJ j (by omega)
  · rintro - ag hJ
    show MD_areLed_L3 _ _ _ M _ ag (nI 3) = _
    unfold MD_areLed_L3
    rw [if_pos (by decide), show ldB S n p cnt x y = true from al_iff.mpr hJ]; rfl
theorem MD_areSo_eq {M : Mem} {S : Nat → Nat} {n x y kd : Nat} {p ma : Nat → Nat} (h : Tbl M 49 S) (hn : M 33 8 = nI n) (h7 : n ≤ 7) (hm : AR M 35 7 ma) (hm3 : ∀ z, z < 7 → ma z ≤ 3) (hp : AR M 50 n p) (hp7 : ∀ z, z < n → p z < 100) (hkd : kd < 5) (hx : x < 7) (hy : y < 7) : MD_areSo (nI x) (nI y) (nI kd) M = some (cI (soB S n ma p kd x y = true)) := by
  unfold MD_areSo soB
  have b1 := hm3 x hx
  have b2 := hm3 y hy
  rw [show (3 : Int32) = nI 3 from rfl, show (4 : Int32) = nI 4 from rfl, show (2 : Int32) = nI 2 from rfl]
  simp (disch := omega) only [inb_nI, hx, hy, if_true, rd_nI, hm x hx, hm y hy, nI_eq, jp_e, nI_leI, show (nI kd = 0) ↔ kd = 0 from nI_eq (b := 0) (by omega) (by omega)]
  by_cases e : ma x = ma y
  · rw [if_pos e, beq_iff_eq.mpr e, Bool.true_and]
    by_cases k0 : kd = 0
    · rw [if_pos k0, if_pos k0]; rfl
    · rw [if_neg k0, if_neg k0]
      by_cases k3 : 3 ≤ kd
      · rw [if_pos k3, if_neg (show ¬ kd = 1 by omega), if_neg (show ¬ kd = 2 by omega)]
        have hA := fun (c : Bool) => MD_areLed_eq (cnt := c) h hn h7 hp hp7 hx hy
        by_cases k4 : kd = 4
        · rw [if_pos k4, show (1 : Int32) = cI (true = true) from rfl, hA, bind_s, bz_cI, k4]; rfl
        · rw [if_neg k4, show (0 : Int32) = cI (false = true) from rfl, hA, bind_s, bz_cI, show (kd == 4) = false from beq_eq_false_iff_ne.mpr k4]
      · rw [if_neg k3]
        have hA := fun (c : Bool) => MD_areTied_eq (ex := c) h hn h7 hx hy
        by_cases k2 : kd = 2
        · rw [if_pos k2, show (1 : Int32) = cI (true = true) from rfl, hA, bind_s, bz_cI, if_neg (show ¬ kd = 1 by omega), if_pos k2]
        · rw [if_neg k2, show (0 : Int32) = cI (false = true) from rfl, hA, bind_s, bz_cI, if_pos (show kd = 1 by omega)]
  · rw [if_neg e, beq_eq_false_iff_ne.mpr e, Bool.false_and]; rfl
