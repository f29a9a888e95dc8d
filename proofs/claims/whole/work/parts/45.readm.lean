/-! by hand: ties: the reference's side -/
def FM (M M' : Mem) : Prop := (∀ k, k ∉ [33, 43, 44, 45, 46, 47, 48] → M' k = M k) ∧ ∀ s, s ≠ 13 → s ≠ 14 → M' 33 s = M 33 s
def MRC (M0 M : Mem) (m : Nat) : Prop := ∀ k, 43 ≤ k → k ≤ 48 → ∀ q, q < m → M k q = M0 k q
/-- what the reference's reader stands on -/
def MT (M0 M : Mem) (i m : Nat) : Prop := FM M0 M ∧ M 33 13 = nI i ∧ M 33 14 = nI m ∧ MRC M0 M m
theorem MT.adv {M0 M : Mem} {i j m : Nat} (h : MT M0 M i m) : MT M0 (st2 M 33 13 (nI j)) j m := by
  obtain ⟨⟨h1, h2⟩, h3, h4, h5⟩ := h
  refine ⟨⟨fun k hk => ?_, fun s hs hs2 => ?_⟩, by rw [st2_s, upd_s], by rw [st2_s, upd_n (by decide)]; exact h4, fun k k1 k2 q hq => ?_⟩
  · rw [st2_n (fun e => hk (by rw [e]; decide))]; exact h1 k hk
  · rw [st2_s, upd_n hs]; exact h2 s hs hs2
  · rw [st2_n (by omega)]; exact h5 k k1 k2 q hq
theorem MT.put {M0 M : Mem} {i m k : Nat} {v : Int32} (h : MT M0 M i m) (k1 : 43 ≤ k) (k2 : k ≤ 48) : MT M0 (st2 M k m v) i m := by
  obtain ⟨⟨h1, h2⟩, h3, h4, h5⟩ := h
  refine ⟨⟨fun j hj => ?_, fun s hs hs2 => ?_⟩, by rw [st2_n (by omega)]; exact h3, by rw [st2_n (by omega)]; exact h4, fun j j1 j2 q hq => ?_⟩
  · rw [st2_n (fun e => hj (by
      have : k = 43 ∨ k = 44 ∨ k = 45 ∨ k = 46 ∨ k = 47 ∨ k = 48 := by omega
      rw [e]; rcases this with rfl | rfl | rfl | rfl | rfl | rfl <;> decide))]
    exact h1 j hj
  · rw [st2_n (by omega)]; exact h2 s hs hs2
  · by_cases e : j = k
    · subst e; rw [st2_s, upd_n (by omega)]; exact h5 j j1 j2 q hq
    · rw [st2_n e]; exact h5 j j1 j2 q hq
def MB (M0 : Mem) (n tb : Nat) (tp : Nat → Nat) : Prop := n ≤ 7 ∧ 1 ≤ n ∧ tb ≤ 60 ∧ (∀ i, i < tb → tp i < 256) ∧ M0 33 12 = nI tb ∧ M0 33 8 = nI n ∧ AR M0 42 tb tp
theorem MT.tb {M0 M : Mem} {n tb i m : Nat} {tp : Nat → Nat} (h : MT M0 M i m) (hb : MB M0 n tb tp) : M 33 12 = nI tb ∧ M 33 8 = nI n ∧ AR M 42 tb tp := by
  obtain ⟨⟨h1, h2⟩, -⟩ := h
  obtain ⟨-, -, -, -, b1, b2, b3⟩ := hb
  exact ⟨by rw [h2 12 (by decide) (by decide)]; exact b1, by rw [h2 8 (by decide) (by decide)]; exact b2, b3.fr (h1 42 (by decide))⟩
theorem MD_sign_eq {M0 M : Mem} {n tb i m : Nat} {tp : Nat → Nat} (hb : MB M0 n tb tp) (h : MT M0 M i m) (hi : i ≤ 1000) : MD_sign M = some (hI tb tp i) := by
  obtain ⟨b1, b2, b3⟩ := h.tb hb
  have := hb.2.2.1
  unfold MD_sign hI
  rw [b1, h.2.1]
  by_cases c : i < tb
  · rw [if_neg (by rw [nI_leI (by omega) (by omega)]; omega), if_pos c, if_pos ((inb_nI (by omega)).mpr (by omega)), rd_nI (by omega), b3 i c]
  · rw [if_pos (by rw [nI_leI (by omega) (by omega)]; omega), if_neg c]
theorem MD_takes_wp {M0 M : Mem} {n tb i m c : Nat} {tp : Nat → Nat} (hb : MB M0 n tb tp) (h : MT M0 M i m) (hi : i ≤ 1000) (hc : c < 256) : wp (MD_takes (nI c) M) (fun r => Fr [33] M r.2 ∧ ((hN tb tp i = c ∧ r.1 = 1 ∧ MT M0 r.2 (i + 1) m) ∨ (hN tb tp i ≠ c ∧ r.1 = 0 ∧ MT M0 r.2 i m))) := by
  unfold MD_takes
  rw [MD_sign_eq hb h hi, bind_s, nm_e']
  by_cases e : hN tb tp i = c
  · rw [if_pos ((hI_eq hb.2.2.2.1 hc).mpr e), h.2.1, nI_1]
    exact wp_some ⟨Fr.st (by simp), Or.inl ⟨e, rfl, h.adv⟩⟩
  · rw [if_neg (fun z => e ((hI_eq hb.2.2.2.1 hc).mp z))]
    exact wp_some ⟨Fr.rf, Or.inr ⟨e, rfl, h⟩⟩
theorem hI_sub {tb i base : Nat} {tp : Nat → Nat} (hb : ∀ i, i < tb → tp i < 256) (h : base < 256) : (hI tb tp i - nI base).toInt = (if i < tb then (tp i : Int) else -1) - base := by
  unfold hI
  by_cases c : i < tb
  · have := hb i c
    rw [if_pos c, if_pos c, sub_toInt (by omega) (by omega)]
  · rw [if_neg c, if_neg c, Int32.toInt_sub, nI_toInt (by omega), show (-1 : Int32).toInt = -1 from rfl]
    unfold Int.bmod
    dsimp only
    split <;> omega
theorem MD_takesIn_wp {M0 M : Mem} {n tb i m base lo hi : Nat} {tp : Nat → Nat} (hb : MB M0 n tb tp) (h : MT M0 M i m) (hi' : i ≤ 1000) (h1 : base ≤ 100) (h2 : hi ≤ 100) (h3 : lo ≤ 100) : wp (MD_takesIn (nI base) (nI lo) (nI hi) M) (fun r => Fr [33] M r.2 ∧ (((base + lo ≤ hN tb tp i ∧ hN tb tp i ≤ base + hi) ∧ r.1 = nI (hN tb tp i - base) ∧ MT M0 r.2 (i + 1) m) ∨ (¬ (base + lo ≤ hN tb tp i ∧ hN tb tp i ≤ base + hi) ∧ r.1 = -1 ∧ r.2 = M))) := by
  have hs := hI_sub (i := i) (base := base) hb.2.2.2.1 (by omega)
  unfold MD_takesIn
  rw [MD_sign_eq hb h hi', bind_s, nm_e', nm_e', MD_isIn_eq, bind_s, Int32.toInt_toInt64, Int32.toInt_toInt64, Int32.toInt_toInt64, nI_toInt (show lo < 2 ^ 31 by omega), nI_toInt (show hi < 2 ^ 31 by omega), hs]
  by_cases e : base + lo ≤ hN tb tp i ∧ hN tb tp i ≤ base + hi
  · obtain ⟨c1, c2⟩ := hI_in e.2 (by omega)
    have e1 : hN tb tp i = tp i := if_pos c1
    rw [if_pos c1, if_neg (by rw [cI_0]; refine not_not_intro ?_; omega), c2, nI_sub (by omega), h.2.1, nI_1]
    exact wp_some ⟨Fr.st (by simp), Or.inl ⟨e, rfl, h.adv⟩⟩
  · rw [if_pos (by
      rw [cI_0]
      by_cases c : i < tb
      · have e1 : hN tb tp i = tp i := if_pos c
        rw [if_pos c]; omega
      · rw [if_neg c]; omega)]
    exact wp_some ⟨Fr.rf, Or.inr ⟨e, rfl, rfl⟩⟩
set_option maxHeartbeats 1000000 in
theorem MD_years_wp {M0 M : Mem} {n tb i m lo : Nat} {b : Int32} {tp : Nat → Nat} (hb : MB M0 n tb tp) (h : MT M0 M i m) (hi : i ≤ 500) (hlo : b.toInt = (lo : Int) - 1) : wp (MD_years b M) (fun r => Fr [33] M r.2 ∧ ((∃ v j, year tb tp lo i = some (v, j) ∧ r.1 = nI v ∧ MT M0 r.2 j m) ∨ (year tb tp lo i = none ∧ r.1 = -1 ∧ MT M0 r.2 i m))) := by
  unfold MD_years
  rw [h.2.1, nm_e']
  refine wp_bnd2 (MD_takesIn_wp (base := 48) (lo := 0) (hi := 9) hb h (by omega) (by omega) (by omega) (by omega)) (fun r1 M1 h1 => ?_)
  obtain ⟨f1, h1⟩ := h1
  dsimp only at f1 h1
  rcases h1 with ⟨c1, rfl, t1⟩ | ⟨c1, rfl, rfl⟩
  · rw [if_pos (nI_nn (by omega))]
    refine LOOP_inv (fun d (s : Int32 × Int32 × Mem) => Fr [33] M s.2.2 ∧ ∃ c v, d = 3 - c ∧ 1 ≤ c ∧ c ≤ 3 ∧ v < 10 ^ c ∧ s.1 = nI v ∧ s.2.1 = nI c ∧ MT M0 s.2.2 (i + c) m ∧ yrd tb tp (3 - c) v (i + c) = yrd tb tp 3 0 i) (fun o => wp o _) ?_ FU 2 (nI (hN tb tp i - 48), 1, M1) (by unfold FU; omega) ⟨f1, 1, _, rfl, by omega, by omega, by omega, rfl, rfl, t1, ?_⟩
    · rintro d ⟨w, cc, t⟩ ag ⟨hf, c, v, rfl, hc1, hc, hv, hw, hcc, ht, hy⟩ ih
      dsimp only at hf hw ht hcc
      subst hw hcc
      show wp (MD_years_L24 _ ag (nI v) (nI c) t) _
      unfold MD_years_L24
      have hv1000 : v < 1000 := Nat.lt_of_lt_of_le hv (Nat.pow_le_pow_right (by omega) hc)
      have hdone : yrd tb tp 3 0 i = (v, i + c) → wp (β := Int32 × Mem) (if 100 < nI v then nm (st2 t 33 13 (nI i)) fun M5 => some (-1, M5) else if nI v ≤ b then nm (st2 t 33 13 (nI i)) fun M6 => some (-1, M6) else some (nI v, t)) (fun r => Fr [33] M r.2 ∧ ((∃ v j, year tb tp lo i = some (v, j) ∧ r.1 = nI v ∧ MT M0 r.2 j m) ∨ (year tb tp lo i = none ∧ r.1 = -1 ∧ MT M0 r.2 i m))) := fun he => by
        have hyr : year tb tp lo i = if i + c = i ∨ 100 < v ∨ v < lo then none else some (v, i + c) := by unfold year; rw [he]
        have hble : (nI v ≤ b) ↔ v < lo := by rw [i_le, nI_toInt (by omega), hlo]; omega
        rw [show (100 : Int32) = nI 100 from rfl]
        simp (disch := omega) only [nI_ltI, nm_e', hble]
        by_cases k1 : 100 < v
        · rw [if_pos k1]
          rw [if_pos (Or.inr (Or.inl k1))] at hyr
          exact wp_some ⟨hf.tr (Fr.st (by simp)), Or.inr ⟨hyr, rfl, ht.adv⟩⟩
        rw [if_neg k1]
        by_cases k2 : v < lo
        · rw [if_pos k2]
          rw [if_pos (Or.inr (Or.inr k2))] at hyr
          exact wp_some ⟨hf.tr (Fr.st (by simp)), Or.inr ⟨hyr, rfl, ht.adv⟩⟩
        · rw [if_neg k2]
          rw [if_neg (by omega)] at hyr
          exact wp_some ⟨hf, Or.inl ⟨v, i + c, hyr, rfl, ht⟩⟩
      by_cases k3 : c = 3
      · rw [if_pos (by rw [k3]; decide)]
        subst k3
        exact hdone hy.symm
      · have hcl : ¬ (3 : Int32) ≤ nI c := by rw [show (3 : Int32) = nI 3 from rfl, nI_leI (by omega) (by omega)]; omega
        have hs := hI_sub (i := i + c) (base := 0) hb.2.2.2.1 (by omega)
        rw [if_neg hcl, MD_sign_eq hb ht (by omega), bind_s, MD_isIn_eq, bind_s, Int32.toInt_toInt64, show (48 : Int64).toInt = 48 from rfl, show (57 : Int64).toInt = 57 from rfl]
        rw [show hI tb tp (i + c) - nI 0 = hI tb tp (i + c) from Int32.sub_zero _] at hs
        by_cases e : 48 ≤ hN tb tp (i + c) ∧ hN tb tp (i + c) ≤ 57
        · obtain ⟨d1, d2⟩ := hI_in e.2 (by omega)
          have e1 : hN tb tp (i + c) = tp (i + c) := if_pos d1
          rw [if_pos d1] at hs
          rw [if_neg (by rw [cI_0, hs]; refine not_not_intro ?_; omega)]
          refine wp_bnd2 (MD_takesIn_wp (base := 48) (lo := 0) (hi := 9) hb ht (by omega) (by omega) (by omega) (by omega)) (fun r4 M3 h3 => ?_)
          obtain ⟨f3, h3⟩ := h3
          dsimp only at f3 h3
          rcases h3 with ⟨-, rfl, t3⟩ | ⟨k, -, -⟩
          · rw [nm_e', show (10 : Int32) = nI 10 from rfl, pk_mul, nI_add, nI_1]
            refine ih (3 - (c + 1)) _ (by omega) ⟨hf.tr f3, c + 1, _, rfl, by omega, by omega, ?_, rfl, rfl, t3, ?_⟩
            · rw [Nat.pow_succ]; omega
            · rw [show 3 - c = (3 - (c + 1)) + 1 by omega, yrd_s, if_pos e] at hy
              rw [show 10 * v + (hN tb tp (i + c) - 48) = v * 10 + hN tb tp (i + c) - 48 by omega]
              exact hy
          · omega
        · rw [yrd_end e] at hy
          rw [if_pos (by
            rw [cI_0, hs]
            by_cases k : i + c < tb
            · have e1 : hN tb tp (i + c) = tp (i + c) := if_pos k
              rw [if_pos k]; omega
            · rw [if_neg k]; omega)]
          exact hdone hy.symm
    · rw [show (3 : Nat) = 2 + 1 from rfl, yrd_s tb tp 2 0 i, if_pos (by omega), Nat.zero_mul, Nat.zero_add]
  · rw [if_neg m1_nn]
    have hyr : year tb tp lo i = none := by
      unfold year
      rw [yrd_end (by omega)]
      exact if_pos (Or.inl rfl)
    exact wp_some ⟨Fr.rf, Or.inr ⟨hyr, rfl, h⟩⟩
