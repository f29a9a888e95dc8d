/-! by hand: partings of the class: read, told as a number, placed, crossed -/
theorem jrem10 {a : Nat} (h : a < 2 ^ 31) : jrem (nI a) 10 = nI (a % 10) := pk_rem (d := 10) h (by omega) (by omega)
theorem jdiv10 {a : Nat} (h : a < 2 ^ 31) : nI a / 10 = nI (a / 10) := pk_div (d := 10) h (by omega) (by omega)
theorem jmax_nI {a b : Nat} (ha : a < 2 ^ 31) (hb : b < 2 ^ 31) : jmax (nI a) (nI b) = nI (max a b) := by
  unfold jmax
  simp only [nI_ltI ha hb]
  split <;> congr 1 <;> omega
theorem jmin_nI {a b : Nat} (ha : a < 2 ^ 31) (hb : b < 2 ^ 31) : jmin (nI a) (nI b) = nI (min a b) := by
  unfold jmin
  simp only [nI_ltI hb ha]
  split <;> congr 1 <;> omega
theorem i_m1 (x : Int32) : x + (-1) = x - 1 := (Int32.sub_eq_add_neg x 1).symm
theorem down0 : nI 0 - 1 < 0 := by decide
theorem m1_neg : ((-1 : Int32) < 0) := by decide
theorem m1_nn : ¬ (0 ≤ (-1 : Int32)) := by decide
/-- what a number tells as a parting of n -/
def opn (n : Nat) (v : Int32) : Option (Nat → Nat) :=
  if 0 ≤ v.toInt ∧ v.toInt < ((10 ^ n : Nat) : Int) ∧ (∀ x, x < n → dg n v.toNatClampNeg x ≤ top (dg n v.toNatClampNeg) x) then some (dg n v.toNatClampNeg) else none
theorem opn_neg {n : Nat} {v : Int32} (h : v < 0) : opn n v = none := by
  unfold opn
  rw [i_lt, i_0] at h
  rw [if_neg (by omega)]
theorem opn_nI {n m : Nat} (h : m < 2 ^ 31) (hm : m < 10 ^ n) (hr : RGS n (dg n m)) : opn n (nI m) = some (dg n m) := by
  unfold opn
  rw [nI_toInt h, nI_clamp h, if_pos ⟨by omega, by omega, hr⟩]
theorem opn_big {n m : Nat} (h : m < 2 ^ 31) (hm : ¬ m < 10 ^ n) : opn n (nI m) = none := by
  unfold opn
  rw [nI_toInt h, if_neg (by omega)]
theorem opn_bad {n m : Nat} (h : m < 2 ^ 31) (hr : ¬ RGS n (dg n m)) : opn n (nI m) = none := by
  unfold opn
  rw [nI_toInt h, nI_clamp h, if_neg (fun z => hr z.2.2)]
theorem opn_some {n : Nat} {v : Int32} {p : Nat → Nat} (h : opn n v = some p) : RGS n p ∧ ∃ m, m < 10 ^ n ∧ m < 2 ^ 31 ∧ v = nI m ∧ p = dg n m := by
  unfold opn at h
  split at h
  · rename_i z
    obtain ⟨z1, z2, z3⟩ := z
    cases h
    have hv : vp_in v (2 ^ 31) := by
      rw [vp_in_iff]
      have := Int32.toInt_lt v
      omega
    refine ⟨z3, v.toNatClampNeg, ?_, ?_, ?_, rfl⟩
    · have : v.toNatClampNeg = v.toInt.toNat := rfl
      omega
    · have : v.toNatClampNeg = v.toInt.toNat := rfl
      have := Int32.toInt_lt v
      omega
    · have e : v.toNatClampNeg = v.toInt.toNat := rfl
      have := Int32.toInt_lt v
      rw [i_eq, nI_toInt (by omega)]
      omega
  · cases h
/-- the object k tells the parting p of n -/
def PT (M : Mem) (k n : Nat) (p : Nat → Nat) : Prop := M k 1 = nI n ∧ M k 2 = nI (top p n) ∧ AR M (k + 1) n p
theorem PT.fr {M M' : Mem} {k n : Nat} {p : Nat → Nat} (h : PT M k n p) (h1 : M' k = M k) (h2 : M' (k + 1) = M (k + 1)) : PT M' k n p := ⟨by rw [h1]; exact h.1, by rw [h1]; exact h.2.1, h.2.2.fr h2⟩
theorem pw10 {n : Nat} (h : n ≤ 7) : 10 ^ n ≤ 10000000 := Nat.pow_le_pow_right (by omega) h
set_option maxHeartbeats 1000000 in
theorem Pa_readNumber_wp {k n : Nat} {v : Int32} {M : Mem} (hk : isP k) (h1 : 1 ≤ n) (h7 : n ≤ 7) : wp (Pa_readNumber k v (nI n) M) (fun r => Fr [k, k + 1] M r.2 ∧ ((∃ p, opn n v = some p ∧ r.1 = 1 ∧ PT r.2 k n p) ∨ (opn n v = none ∧ r.1 = 0))) := by
  have ha := alnP hk
  have hkk : k + 1 ≠ k := by omega
  unfold Pa_readNumber
  rw [nm_e', nm_e', nm_e']
  refine LOOP_down2 (fun x (w : Int32) (t : Mem) => (w, nI x - 1, t)) (fun x w t => Fr [k, k + 1] M t ∧ t k 1 = nI n ∧ t k 2 = 0 ∧ x ≤ n ∧ ∀ m, m < 2 ^ 31 → v = nI m → w = nI (m / 10 ^ (n - x)) ∧ ∀ y, x ≤ y → y < n → t (k + 1) y = nI (dg n m y)) (fun o => wp o _) ?_ ?_ n v _ (by omega) ?_
  · rintro x w m1 ag ⟨hf, e1, e2, hx, hd⟩ ih
    show wp (Pa_readNumber_L17 k _ ag w (nI (x + 1) - 1) m1) _
    unfold Pa_readNumber_L17
    rw [nI_pred, if_neg (nI_pos (by omega)), SP_put_nI (by omega) (by omega), bind_s, nm_e', i_m1]
    refine ih (w / 10) _ ⟨hf.tr (Fr.st (by simp)), by rw [st2_n hkk.symm]; exact e1, by rw [st2_n hkk.symm]; exact e2, by omega, fun m hm hv => ?_⟩
    obtain ⟨d1, d2⟩ := hd m hm hv
    have hlt : m / 10 ^ (n - (x + 1)) < 2 ^ 31 := Nat.lt_of_le_of_lt (Nat.div_le_self _ _) hm
    refine ⟨?_, fun y hy hyn => ?_⟩
    · have e : n - x = n - (x + 1) + 1 := by omega
      rw [d1, jdiv10 hlt, Nat.div_div_eq_div_mul, e, Nat.pow_succ]
    · rw [st2_s]
      by_cases e : y = x
      · subst e
        rw [upd_s, d1, jrem10 hlt]
        unfold dg
        rw [show n - (y + 1) = n - 1 - y by omega]
      · rw [upd_n e]; exact d2 y (by omega) hyn
  · rintro w m1 ag ⟨hf, e1, e2, hx, hd⟩
    show wp (Pa_readNumber_L17 k _ ag w (nI 0 - 1) m1) _
    unfold Pa_readNumber_L17
    rw [if_pos down0]
    dsimp only
    by_cases hneg : v < 0
    · rw [if_pos hneg]
      exact wp_some ⟨hf, Or.inr ⟨opn_neg hneg, rfl⟩⟩
    · rw [if_neg hneg]
      obtain ⟨m, hm, hv⟩ := nI_of hneg
      obtain ⟨d1, d2⟩ := hd m hm hv
      have hlt : m / 10 ^ (n - 0) < 2 ^ 31 := Nat.lt_of_le_of_lt (Nat.div_le_self _ _) hm
      have hp := pw10 h7
      rw [d1, show (0 : Int32) = nI 0 from rfl]
      simp only [nI_eq hlt (show 0 < 2 ^ 31 by omega)]
      have hz : m / 10 ^ (n - 0) = 0 ↔ m < 10 ^ n := by
        rw [Nat.sub_zero, Nat.div_eq_zero_iff]
        have : 0 < 10 ^ n := Nat.pow_pos (by omega)
        omega
      by_cases hb : m < 10 ^ n
      · rw [if_pos (hz.mpr hb)]
        have hdg := fun x => dg_lt n m x
        refine LOOP_up (fun x (t : Mem) => (nI x, t)) n (by omega) (fun x t => Fr [k, k + 1] M t ∧ t k 1 = nI n ∧ t k 2 = nI (top (dg n m) x) ∧ (∀ y, y < n → t (k + 1) y = nI (dg n m y)) ∧ ∀ y, y < x → dg n m y ≤ top (dg n m) y) (fun o => wp o _) ?_ ?_ 0 m1 (by omega) ⟨hf, e1, e2, fun y hy => d2 y (by omega) hy, fun y hy => by omega⟩
        · rintro x t ag hx ⟨hf, e1, e2, e3, e4⟩ ih
          show wp (Pa_readNumber_L59 k (nI n) _ ag (nI x) t) _
          unfold Pa_readNumber_L59
          have htop : top (dg n m) x ≤ 10 := top_le (fun y _ => hdg y)
          have hx9 := hdg x
          simp (disch := omega) only [nI_leI, show ¬ n ≤ x by omega, if_false, Pa_of_nI hk (show x < 7 by omega), bind_s, e3 x hx, e2]
          refine wp_ite (fun hc => ?_) (fun hc => ?_)
          · rw [nm_e', show (1 : Int32) = nI 1 from rfl, nI_add, nI_add, jmax_nI (by omega) (by omega)]
            refine ih _ ⟨hf.tr (Fr.st (by simp)), ?_, ?_, fun y hy => ?_, fun y hy => ?_⟩
            · rw [st2_s, upd_n (by omega)]; exact e1
            · rw [st2_s, upd_s]; rfl
            · rw [st2_n hkk]; exact e3 y hy
            · by_cases e : y = x
              · subst e; exact hc
              · exact e4 y (by omega)
          · refine wp_some ⟨hf, Or.inr ⟨?_, rfl⟩⟩
            rw [hv]
            exact opn_bad hm (fun hr => hc (hr x hx))
        · rintro t ag ⟨hf, e1, e2, e3, e4⟩
          show wp (Pa_readNumber_L59 k (nI n) _ ag (nI n) t) _
          unfold Pa_readNumber_L59
          simp (disch := omega) only [nI_leI, Nat.le_refl, if_true]
          exact wp_some ⟨hf, Or.inl ⟨_, by rw [hv]; exact opn_nI hm hb e4, rfl, e1, e2, e3⟩⟩
      · rw [if_neg (fun z => hb (hz.mp z))]
        exact wp_some ⟨hf, Or.inr ⟨by rw [hv]; exact opn_big hm hb, rfl⟩⟩
  · refine ⟨(Fr.st (by simp)).tr (Fr.st (by simp)), ?_, ?_, Nat.le_refl _, fun m hm hv => ⟨?_, fun y hy hyn => by omega⟩⟩
    · rw [st2_s, upd_n (by omega), st2_s, upd_s]
    · rw [st2_s, upd_s]
    · rw [Nat.sub_self, hv]; simp
theorem Pa_number_eq {k n : Nat} {p : Nat → Nat} {M : Mem} (hk : isP k) (h7 : n ≤ 7) (h : PT M k n p) : Pa_number k M = some (nI (num p n)) := by
  obtain ⟨e1, -, e3⟩ := h
  unfold Pa_number
  refine LOOP_fun (fun x => (nI (num p x), nI x)) n (by omega) (fun _ => some (nI (num p n))) ?_ ?_ 0 (Nat.zero_le _)
  · intro x ag hx ih
    show Pa_number_L4 k M _ ag (nI (num p x)) (nI x) = _
    unfold Pa_number_L4
    simp (disch := omega) only [e1, nI_leI, show ¬ n ≤ x by omega, if_false, Pa_of_nI hk (show x < 7 by omega), bind_s, e3 x hx, nm_e', i32lit, pk_mul, nI_add]
    exact ih
  · intro ag
    show Pa_number_L4 k M _ ag _ (nI n) = _
    unfold Pa_number_L4
    simp (disch := omega) only [e1, nI_leI, Nat.le_refl, if_true]
theorem Pa_begin_eq {k : Nat} {v : Int32} {M : Mem} : wp (Pa_begin k v M) (fun M' => Fr [k] M M' ∧ M' k 1 = v ∧ M' k 2 = 0) := by
  unfold Pa_begin
  rw [nm_e', nm_e']
  refine wp_some ⟨(Fr.st (by simp)).tr (Fr.st (by simp)), ?_, ?_⟩
  · rw [st2_s, upd_n (by omega), st2_s, upd_s]
  · rw [st2_s, upd_s]
theorem Pa_place_wp {k x : Nat} {r : Nat → Nat → Bool} {a : Int32} {M : Mem} (hk : isP k) (hx : x < 7) (h : AR M (k + 1) x (lb r)) (hq : M k 2 = nI (nwr r x)) (ha : a = if fr r x < x then nI (fr r x) else -1) : wp (Pa_place k (nI x) a M) (fun M' => Fr [k, k + 1] M M' ∧ M' k 1 = M k 1 ∧ AR M' (k + 1) (x + 1) (lb r) ∧ M' k 2 = nI (nwr r (x + 1))) := by
  have hal := alnP hk
  have hkk : k + 1 ≠ k := by omega
  have es : nwr r (x + 1) = nwr r x + if fr r x = x then 1 else 0 := rfl
  unfold Pa_place
  by_cases hf : fr r x < x
  · rw [if_pos hf] at ha
    subst ha
    rw [if_pos (nI_pos' (by omega)), Pa_of_nI hk (by omega), bind_s, SP_put_nI (by omega) (by omega), bind_s]
    refine wp_some ⟨Fr.st (by simp), by rw [st2_n hkk.symm], fun j hj => ?_, ?_⟩
    · rw [st2_s]
      by_cases e : j = x
      · subst e; rw [upd_s, h _ hf, lb_old hf]
      · rw [upd_n e]; exact h j (by omega)
    · rw [st2_n hkk.symm, hq, es, if_neg (by omega)]; rfl
  · rw [if_neg hf] at ha
    subst ha
    have h1 := fr_le r x
    rw [if_neg m1_nn, SP_put_nI (by omega) (by omega), bind_s, nm_e']
    refine wp_some ⟨(Fr.st (by simp)).tr (Fr.st (by simp)), ?_, fun j hj => ?_, ?_⟩
    · rw [st2_s, upd_n (by omega), st2_n hkk.symm]
    · rw [st2_n hkk, st2_s]
      by_cases e : j = x
      · subst e; rw [upd_s, hq, lb_new hf]
      · rw [upd_n e]; exact h j (by omega)
    · rw [st2_s, upd_s, st2_n hkk.symm, hq, es, if_pos (by omega), show (1 : Int32) = nI 1 from rfl, nI_add]
/-- the first one ahead, as the programs look for it -/
theorem frI {r : Nat → Nat → Bool} {x y : Nat} {a : Int32} (hy : y = x ∨ a ≠ -1) (hyx : y ≤ x) (hJ : (a = -1 ∧ ∀ z, z < y → r z x = false) ∨ (∃ f, a = nI f ∧ f < y ∧ f = fr r x)) : a = if fr r x < x then nI (fr r x) else -1 := by
  rcases hJ with ⟨e, hz⟩ | ⟨f, e, hf, hr⟩
  · rcases hy with rfl | h
    · have : fr r y = y := ff_none hz
      rw [if_neg (by omega)]; exact e
    · exact absurd e h
  · subst hr
    rw [if_pos (by omega)]; exact e
theorem Pa_cross_wp {k2 n : Nat} {p p2 : Nat → Nat} {M : Mem} (hk2 : k2 = 26 ∨ k2 = 28) (h7 : n ≤ 7) (h1 : M 26 1 = nI n) (h : AR M 27 n p) (h2 : AR M (k2 + 1) n p2) (hp : ∀ x, x < n → p x < 100) (hp2 : ∀ x, x < n → p2 x < 100) :
    wp (Pa_cross k2 M) (fun M' => Fr [30, 31] M M' ∧ PT M' 30 n (lb (fun y x => p x == p y && p2 x == p2 y))) := by
  have hP2 : isP k2 := by rcases hk2 with rfl | rfl <;> exact ⟨by decide, rfl, rfl⟩
  have hP : isP 26 := ⟨by decide, rfl, rfl⟩
  have hR : isP 30 := ⟨by decide, rfl, rfl⟩
  unfold Pa_cross
  rw [h1]
  refine wp_bind Pa_begin_eq (fun M1 hM1 => ?_)
  obtain ⟨f1, e1, e2⟩ := hM1
  let r : Nat → Nat → Bool := fun y x => p x == p y && p2 x == p2 y
  refine LOOP_up (fun x (t : Mem) => (nI x, t)) n (by omega) (fun x t => Fr [30, 31] M t ∧ t 30 1 = nI n ∧ t 30 2 = nI (nwr r x) ∧ AR t 31 x (lb r)) (fun o => wp o _) ?_ ?_ 0 M1 (by omega) ⟨f1.mo (by simp), e1, e2, fun j hj => by omega⟩
  · rintro x t ag hx ⟨hf, a1, a2, a3⟩ ih
    show wp (Pa_cross_L10 k2 _ ag (nI x) t) _
    unfold Pa_cross_L10
    have b1 : AR t 27 n p := h.fr (hf 27 (by decide))
    have b2 : AR t (k2 + 1) n p2 := h2.fr (hf (k2 + 1) (by rcases hk2 with rfl | rfl <;> decide))
    simp (disch := omega) only [a1, nI_leI, show ¬ n ≤ x by omega, if_false]
    refine LOOP_up (fun y (a : Int32) => (a, nI y)) x (by omega) (fun y a => (a = -1 ∧ ∀ z, z < y → r z x = false) ∨ (∃ f, a = nI f ∧ f < y ∧ f = fr r x)) (fun o => wp o _) ?_ ?_ 0 (-1) (by omega) (Or.inl ⟨rfl, fun z hz => by omega⟩)
    · intro y a ag' hy hJ ih'
      show wp (Pa_cross_L24 k2 (nI x) t _ ag' a (nI y)) _
      unfold Pa_cross_L24
      simp (disch := omega) only [nI_leI, show ¬ x ≤ y by omega, if_false]
      refine wp_ite (fun hc => ?_) (fun hc => ?_)
      · refine wp_bind (Pa_place_wp hR (by omega) a3 a2 (frI (y := y) (Or.inr (fun e => m1_nn (e ▸ hc))) (by omega) hJ)) (fun M3 hM3 => ?_)
        obtain ⟨c1, c2, c3, c4⟩ := hM3
        rw [show (1 : Int32) = nI 1 from rfl, nI_add]
        exact ih M3 ⟨hf.tr c1, c2.trans a1, c4, c3⟩
      · have hn : a = -1 ∧ ∀ z, z < y → r z x = false := by
          rcases hJ with z | ⟨f, e, hfy, -⟩
          · exact z
          · subst e
            exact absurd (nI_pos' (by omega)) hc
        rw [Pa_together_eq hP b1 hp h7 hx (by omega), bind_s, Pa_together_eq hP2 b2 hp2 h7 hx (by omega), bind_s]
        simp only [cI_0]
        have hno : r y x = false → wp (ag' (a, nI y + 1)) _ := fun hr => by
          rw [show (1 : Int32) = nI 1 from rfl, nI_add]
          refine ih' a (Or.inl ⟨hn.1, fun z hz => ?_⟩)
          by_cases e : z = y
          · subst e; exact hr
          · exact hn.2 z (by omega)
        refine wp_ite (fun hc1 => ?_) (fun hc1 => ?_)
        · exact hno (by simp [r, hc1])
        · refine wp_ite (fun hc2 => ?_) (fun hc2 => ?_)
          · exact hno (by simp [r, hc2])
          · rw [show (1 : Int32) = nI 1 from rfl, nI_add]
            refine ih' (nI y) (Or.inr ⟨y, rfl, by omega, ?_⟩)
            have hr : r y x = true := by
              simp only [Decidable.not_not] at hc1 hc2
              simp [r, hc1, hc2]
            exact (ff_eq hy hr hn.2).symm
    · intro a ag' hJ
      show wp (Pa_cross_L24 k2 (nI x) t _ ag' a (nI x)) _
      unfold Pa_cross_L24
      simp (disch := omega) only [nI_leI, Nat.le_refl, if_true]
      refine wp_bind (Pa_place_wp hR (by omega) a3 a2 (frI (Or.inl rfl) (by omega) hJ)) (fun M3 hM3 => ?_)
      obtain ⟨c1, c2, c3, c4⟩ := hM3
      rw [show (1 : Int32) = nI 1 from rfl, nI_add]
      exact ih M3 ⟨hf.tr c1, c2.trans a1, c4, c3⟩
  · rintro t ag ⟨hf, a1, a2, a3⟩
    show wp (Pa_cross_L10 k2 _ ag (nI n) t) _
    unfold Pa_cross_L10
    simp (disch := omega) only [a1, nI_leI, Nat.le_refl, if_true]
    exact wp_some ⟨hf, a1, by rw [a2, (lb_top r n).1], a3⟩
