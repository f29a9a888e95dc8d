/-! by hand: ties: a tape read, its faults' places: the class -/
def hN (tb : Nat) (tp : Nat → Nat) (i : Nat) : Nat := if i < tb then tp i else 1000
def hI (tb : Nat) (tp : Nat → Nat) (i : Nat) : Int32 := if i < tb then nI (tp i) else -1
theorem hI_eq {tb : Nat} {tp : Nat → Nat} (hb : ∀ i, i < tb → tp i < 256) {i c : Nat} (hc : c < 256) : (hI tb tp i = nI c) ↔ hN tb tp i = c := by
  unfold hI hN
  by_cases h : i < tb
  · have := hb i h
    rw [if_pos h, if_pos h, nI_eq (by omega) (by omega)]
  · rw [if_neg h, if_neg h]
    constructor
    · intro e
      have := nI_pos (n := c) (by omega)
      rw [← e] at this
      exact absurd m1_neg this
    · intro e; omega
theorem hI_lt {tb : Nat} {tp : Nat → Nat} (hb : ∀ i, i < tb → tp i < 256) {i c : Nat} (hc : c < 256) (h0 : 0 < c) : (hI tb tp i < nI c) ↔ (hN tb tp i < c ∨ ¬ i < tb) := by
  unfold hI hN
  by_cases h : i < tb
  · have := hb i h
    rw [if_pos h, if_pos h, nI_ltI (by omega) (by omega)]
    omega
  · rw [if_neg h, if_neg h]
    exact ⟨fun _ => Or.inr h, fun _ => by rw [i_lt, nI_toInt (by omega)]; show (-1 : Int) < _; omega⟩
theorem hI_in {tb : Nat} {tp : Nat → Nat} {i b : Nat} (h : hN tb tp i ≤ b) (hb : b < 1000) : i < tb ∧ hI tb tp i = nI (hN tb tp i) := by
  unfold hN at h ⊢
  unfold hI
  by_cases c : i < tb
  · rw [if_pos c, if_pos c]; exact ⟨c, rfl⟩
  · rw [if_neg c] at h; omega
/-- up to f digits -/
def yrd (tb : Nat) (tp : Nat → Nat) : Nat → Nat → Nat → Nat × Nat
  | 0, v, i => (v, i)
  | f + 1, v, i => if 48 ≤ hN tb tp i ∧ hN tb tp i ≤ 57 then yrd tb tp f (v * 10 + hN tb tp i - 48) (i + 1) else (v, i)
def year (tb : Nat) (tp : Nat → Nat) (lo i : Nat) : Option (Nat × Nat) := if (yrd tb tp 3 0 i).2 = i ∨ 100 < (yrd tb tp 3 0 i).1 ∨ (yrd tb tp 3 0 i).1 < lo then none else some (yrd tb tp 3 0 i)
theorem yrd_s (tb : Nat) (tp : Nat → Nat) (f v i : Nat) : yrd tb tp (f + 1) v i = if 48 ≤ hN tb tp i ∧ hN tb tp i ≤ 57 then yrd tb tp f (v * 10 + hN tb tp i - 48) (i + 1) else (v, i) := rfl
def fld (a b k s v w : Nat) : Nat → Nat
  | 0 => a
  | 1 => b
  | 2 => k
  | 3 => s
  | 4 => v
  | _ => w
def tieY (tb : Nat) (tp : Nat → Nat) (a b k s j : Nat) : Option (Nat → Nat) × Nat :=
  if hN tb tp j = 64 then match year tb tp 0 (j + 1) with
    | none => (none, j + 1)
    | some (v, j2) => if hN tb tp j2 = 45 then match year tb tp (v + 1) (j2 + 1) with
      | none => (none, j2 + 1)
      | some (w, j3) => (some (fld a b k s v w), j3)
      else (none, j2)
  else (some (fld a b k s 0 100), j)
def tieR (n tb : Nat) (tp : Nat → Nat) (i : Nat) : Option (Nat → Nat) × Nat :=
  if 97 ≤ hN tb tp i ∧ hN tb tp i < 97 + n then
    if hN tb tp (i + 1) = 62 then
      if hN tb tp (i + 2) = hN tb tp i then (none, i + 2)
      else if 97 ≤ hN tb tp (i + 2) ∧ hN tb tp (i + 2) < 97 + n then
        if 48 ≤ hN tb tp (i + 3) ∧ hN tb tp (i + 3) ≤ 50 then
          if hN tb tp (i + 4) = 42 then
            if 49 ≤ hN tb tp (i + 5) ∧ hN tb tp (i + 5) ≤ 57 then tieY tb tp (hN tb tp i - 97) (hN tb tp (i + 2) - 97) (hN tb tp (i + 3) - 48) (hN tb tp (i + 5) - 48) (i + 6)
            else (none, i + 5)
          else tieY tb tp (hN tb tp i - 97) (hN tb tp (i + 2) - 97) (hN tb tp (i + 3) - 48) 1 (i + 4)
        else (none, i + 3)
      else (none, i + 2)
    else (none, i + 1)
  else (none, i)
/-- what the class's reader stands on -/
def CT (M : Mem) (n tb : Nat) (tp : Nat → Nat) (i m : Nat) : Prop := M 6 2 = nI tb ∧ M 6 3 = nI i ∧ M 6 4 = nI n ∧ AR M 7 tb tp ∧ M 8 1 = nI m
def CTok (n tb : Nat) (tp : Nat → Nat) (m : Nat) : Prop := n ≤ 7 ∧ tb ≤ 60 ∧ (∀ i, i < tb → tp i < 256) ∧ m < 20
theorem aln7 : aln 7 = 60 := rfl
theorem aln9 : aln 9 = 360 := rfl
theorem Ta_here_eq {n tb i m : Nat} {tp : Nat → Nat} {M : Mem} (ho : CTok n tb tp m) (h : CT M n tb tp i m) (hi : i ≤ 1000) : Ta_here M = some (hI tb tp i) := by
  obtain ⟨o1, o2, o3, o4⟩ := ho
  obtain ⟨h1, h2, h3, h4, h5⟩ := h
  unfold Ta_here hI
  rw [h1, h2]
  by_cases c : i < tb
  · rw [if_neg (by rw [nI_leI (by omega) (by omega)]; omega), if_pos c, SP_at_nI (by rw [aln7]; omega) (by rw [aln7]; omega), bind_s, h4 i c]
  · rw [if_pos (by rw [nI_leI (by omega) (by omega)]; omega), if_neg c]
/-- one step on -/
theorem CT.adv {n tb i j m : Nat} {tp : Nat → Nat} {M : Mem} (h : CT M n tb tp i m) : CT (st2 M 6 3 (nI j)) n tb tp j m := by
  obtain ⟨h1, h2, h3, h4, h5⟩ := h
  exact ⟨by rw [st2_s, upd_n (by decide)]; exact h1, by rw [st2_s, upd_s], by rw [st2_s, upd_n (by decide)]; exact h3, h4.fr (st2_n (by decide)), by rw [st2_n (by decide)]; exact h5⟩
theorem CT.put {n tb i m q : Nat} {v : Int32} {tp : Nat → Nat} {M : Mem} (h : CT M n tb tp i m) : CT (st2 M 9 q v) n tb tp i m := by
  obtain ⟨h1, h2, h3, h4, h5⟩ := h
  exact ⟨by rw [st2_n (by decide)]; exact h1, by rw [st2_n (by decide)]; exact h2, by rw [st2_n (by decide)]; exact h3, h4.fr (st2_n (by decide)), by rw [st2_n (by decide)]; exact h5⟩
theorem Ta_skip_wp {n tb i m c : Nat} {tp : Nat → Nat} {M : Mem} (ho : CTok n tb tp m) (h : CT M n tb tp i m) (hi : i ≤ 1000) (hc : c < 256) : wp (Ta_skip (nI c) M) (fun r => Fr [6] M r.2 ∧ ((hN tb tp i = c ∧ r.1 = 1 ∧ CT r.2 n tb tp (i + 1) m) ∨ (hN tb tp i ≠ c ∧ r.1 = 0 ∧ CT r.2 n tb tp i m))) := by
  unfold Ta_skip
  rw [Ta_here_eq ho h hi, bind_s, nm_e']
  by_cases e : hN tb tp i = c
  · rw [if_pos ((hI_eq ho.2.2.1 hc).mpr e), h.2.1, nI_1]
    exact wp_some ⟨Fr.st (by simp), Or.inl ⟨e, rfl, h.adv⟩⟩
  · rw [if_neg (fun z => e ((hI_eq ho.2.2.1 hc).mp z))]
    exact wp_some ⟨Fr.rf, Or.inr ⟨e, rfl, h⟩⟩
theorem Td_draft8 {n tb i m s : Nat} {v : Int32} {tp : Nat → Nat} {M : Mem} (ho : CTok n tb tp m) (h : CT M n tb tp i m) (hs : s < 6) : Td_draft 8 (nI s) v M = some (st2 M 9 (m * 6 + s) v) := by
  unfold Td_draft
  have := ho.2.2.2
  rw [h.2.2.2.2, show (6 : Int32) = nI 6 from rfl, pk_mul, nI_add, show 8 + 1 = 9 from rfl, SP_put_nI (by rw [aln9]; omega) (by rw [aln9]; omega), bind_s]
theorem Ta_readInto_wp {n tb i m s lo hi base : Nat} {tp : Nat → Nat} {M : Mem} (ho : CTok n tb tp m) (h : CT M n tb tp i m) (hi' : i ≤ 1000) (hs : s < 6) (hlo : 0 < lo) (hhi : hi < 256) (hl : lo < 256) (hb : base ≤ lo) : wp (Ta_readInto (nI s) (nI lo) (nI hi) (nI base) M) (fun r => Fr [6, 9] M r.2 ∧ (((lo ≤ hN tb tp i ∧ hN tb tp i ≤ hi) ∧ r.1 = 1 ∧ CT r.2 n tb tp (i + 1) m ∧ r.2 9 = upd (M 9) (m * 6 + s) (nI (hN tb tp i - base))) ∨ (¬ (lo ≤ hN tb tp i ∧ hN tb tp i ≤ hi) ∧ r.1 = 0 ∧ r.2 = M))) := by
  unfold Ta_readInto
  rw [Ta_here_eq ho h hi', bind_s]
  by_cases e : lo ≤ hN tb tp i ∧ hN tb tp i ≤ hi
  · obtain ⟨c1, c2⟩ := hI_in e.2 (by omega)
    rw [if_neg (by rw [hI_lt ho.2.2.1 hl hlo]; omega), c2, if_pos (by rw [nI_leI (by omega) (by omega)]; exact e.2), nI_sub (by omega), Td_draft8 ho h hs, bind_s, nm_e', h.put.2.1, nI_1]
    exact wp_some ⟨(Fr.st (by simp)).tr (Fr.st (by simp)), Or.inl ⟨e, rfl, h.put.adv, by dsimp only; rw [st2_n (by decide), st2_s]⟩⟩
  · by_cases c : hI tb tp i < nI lo
    · rw [if_pos c]
      exact wp_some ⟨Fr.rf, Or.inr ⟨e, rfl, rfl⟩⟩
    · rw [if_neg c]
      rw [hI_lt ho.2.2.1 hl hlo] at c
      have hlt : i < tb := by omega
      have : hN tb tp i = tp i := if_pos hlt
      have h256 := ho.2.2.1 i hlt
      have : hI tb tp i = nI (hN tb tp i) := by rw [this]; exact if_pos hlt
      rw [this, if_neg (by rw [nI_leI (by omega) (by omega)]; omega)]
      exact wp_some ⟨Fr.rf, Or.inr ⟨e, rfl, rfl⟩⟩
theorem yrd_pos {tb : Nat} {tp : Nat → Nat} : ∀ {f v i : Nat}, i ≤ (yrd tb tp f v i).2 ∧ (yrd tb tp f v i).2 ≤ i + f
  | 0, v, i => ⟨Nat.le_refl _, Nat.le_refl _⟩
  | f + 1, v, i => by
    rw [yrd_s]
    split
    · have := yrd_pos (tb := tb) (tp := tp) (f := f) (v := v * 10 + hN tb tp i - 48) (i := i + 1)
      omega
    · exact ⟨Nat.le_refl _, by dsimp only; omega⟩
theorem yrd_end {tb : Nat} {tp : Nat → Nat} {v i : Nat} (h : ¬ (48 ≤ hN tb tp i ∧ hN tb tp i ≤ 57)) : ∀ f, yrd tb tp f v i = (v, i)
  | 0 => rfl
  | f + 1 => by rw [yrd_s, if_neg h]
set_option maxHeartbeats 1000000 in
theorem Ta_readYear_wp {n tb i m s lo : Nat} {b : Int32} {tp : Nat → Nat} {M : Mem} (ho : CTok n tb tp m) (h : CT M n tb tp i m) (hi : i ≤ 500) (hs : s < 6) (hb : b.toInt = (lo : Int) - 1) : wp (Ta_readYear (nI s) b M) (fun r => Fr [6, 9] M r.2 ∧ ((∃ v j, year tb tp lo i = some (v, j) ∧ r.1 = 1 ∧ CT r.2 n tb tp j m ∧ r.2 9 = upd (M 9) (m * 6 + s) (nI v)) ∨ (year tb tp lo i = none ∧ r.1 = 0 ∧ CT r.2 n tb tp i m ∧ r.2 9 = M 9))) := by
  unfold Ta_readYear
  rw [h.2.1, nm_e']
  -- c digits read, v their value
  refine LOOP_inv (fun d (s : Int32 × Mem) => Fr [6] M s.2 ∧ ∃ c v, d = 3 - c ∧ c ≤ 3 ∧ v < 10 ^ c ∧ s.1 = nI v ∧ CT s.2 n tb tp (i + c) m ∧ yrd tb tp (3 - c) v (i + c) = yrd tb tp 3 0 i) (fun o => wp o _) ?_ FU 3 (0, M) (by unfold FU; omega) ⟨Fr.rf, 0, 0, rfl, by omega, by decide, rfl, h, rfl⟩
  rintro d ⟨w, t⟩ ag ⟨hf, c, v, rfl, hc, hv, hw, ht, hy⟩ ih
  dsimp only at hf hw ht
  subst hw
  show wp (Ta_readYear_L8 (nI i) _ ag (nI v) t) _
  unfold Ta_readYear_L8
  have hv1000 : v < 1000 := Nat.lt_of_lt_of_le hv (Nat.pow_le_pow_right (by omega) hc)
  have hdone : yrd tb tp 3 0 i = (v, i + c) → wp (β := Int32 × Mem) (if t 6 3 = nI i then some (0, t) else if 100 < nI v then nm (st2 t 6 3 (nI i)) fun M4 => some (0, M4) else if b < nI v then Option.bind (Td_draft 8 (nI s) (nI v) t) fun M5 => some (1, M5) else nm (st2 t 6 3 (nI i)) fun M6 => some (0, M6)) (fun r => Fr [6, 9] M r.2 ∧ ((∃ v j, year tb tp lo i = some (v, j) ∧ r.1 = 1 ∧ CT r.2 n tb tp j m ∧ r.2 9 = upd (M 9) (m * 6 + s) (nI v)) ∨ (year tb tp lo i = none ∧ r.1 = 0 ∧ CT r.2 n tb tp i m ∧ r.2 9 = M 9))) := fun he => by
    have e9 : t 9 = M 9 := hf 9 (by decide)
    have f69 : Fr [6, 9] M t := hf.mo (by simp)
    have hyr : year tb tp lo i = if i + c = i ∨ 100 < v ∨ v < lo then none else some (v, i + c) := by unfold year; rw [he]
    have hblt : (b < nI v) ↔ lo ≤ v := by rw [i_lt, nI_toInt (by omega), hb]; omega
    rw [ht.2.1, show (100 : Int32) = nI 100 from rfl]
    simp (disch := omega) only [nI_eq, nI_ltI, nm_e', hblt]
    by_cases c0 : i + c = i
    · rw [if_pos c0]
      rw [if_pos (Or.inl c0)] at hyr
      exact wp_some ⟨f69, Or.inr ⟨hyr, rfl, by rw [c0] at ht; exact ht, e9⟩⟩
    rw [if_neg c0]
    by_cases c1 : 100 < v
    · rw [if_pos c1]
      rw [if_pos (Or.inr (Or.inl c1))] at hyr
      exact wp_some ⟨f69.tr (Fr.st (by simp)), Or.inr ⟨hyr, rfl, ht.adv, by dsimp only; rw [st2_n (by decide)]; exact e9⟩⟩
    rw [if_neg c1]
    by_cases c2 : lo ≤ v
    · rw [if_pos c2, Td_draft8 ho ht hs, bind_s]
      rw [if_neg (by omega)] at hyr
      exact wp_some ⟨f69.tr (Fr.st (by simp)), Or.inl ⟨v, i + c, hyr, rfl, ht.put, by dsimp only; rw [st2_s, e9]⟩⟩
    · rw [if_neg c2]
      rw [if_pos (Or.inr (Or.inr (by omega)))] at hyr
      exact wp_some ⟨f69.tr (Fr.st (by simp)), Or.inr ⟨hyr, rfl, ht.adv, by dsimp only; rw [st2_n (by decide)]; exact e9⟩⟩
  rw [ht.2.1, nI_sub (by omega), show i + c - i = c by omega]
  by_cases c3 : c = 3
  · rw [if_pos (by rw [c3]; decide)]
    subst c3
    exact hdone hy.symm
  · have hcl : ¬ (3 : Int32) ≤ nI c := by rw [show (3 : Int32) = nI 3 from rfl, nI_leI (by omega) (by omega)]; omega
    rw [if_neg hcl, Ta_here_eq ho ht (by omega), bind_s, bind_s, bind_s, show (48 : Int32) = nI 48 from rfl, show (57 : Int32) = nI 57 from rfl]
    by_cases e : 48 ≤ hN tb tp (i + c) ∧ hN tb tp (i + c) ≤ 57
    · obtain ⟨d1, d2⟩ := hI_in e.2 (by omega)
      rw [if_neg (by rw [hI_lt ho.2.2.1 (by omega) (by omega)]; omega), d2, if_neg (by rw [nI_ltI (by omega) (by omega)]; omega), nm_e', nm_e', show (10 : Int32) = nI 10 from rfl, pk_mul, nI_add, nI_sub (by omega), nI_1]
      refine ih (3 - (c + 1)) _ (by omega) ⟨hf.tr (Fr.st (by simp)), c + 1, _, rfl, by omega, ?_, rfl, ht.adv, ?_⟩
      · rw [Nat.pow_succ]; omega
      · rw [show 3 - c = (3 - (c + 1)) + 1 by omega, yrd_s, if_pos e] at hy
        exact hy
    · rw [yrd_end e] at hy
      have hd' := hdone hy.symm
      by_cases c4 : hI tb tp (i + c) < nI 48
      · rw [if_pos c4]; exact hd'
      · rw [if_neg c4]
        rw [hI_lt ho.2.2.1 (by omega) (by omega)] at c4
        have hlt : i + c < tb := by omega
        have e1 : hN tb tp (i + c) = tp (i + c) := if_pos hlt
        have h256 := ho.2.2.1 _ hlt
        have e2 : hI tb tp (i + c) = nI (hN tb tp (i + c)) := by rw [e1]; exact if_pos hlt
        rw [e2, if_pos (by rw [nI_ltI (by omega) (by omega)]; omega)]
        exact hd'
