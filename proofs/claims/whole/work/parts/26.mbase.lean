/-! by hand: the reference's smallest methods -/
theorem l_lt {x y : Int64} : x < y ↔ x.toInt < y.toInt := Int64.lt_iff_toInt_lt
theorem l_le {x y : Int64} : x ≤ y ↔ x.toInt ≤ y.toInt := Int64.le_iff_toInt_le
theorem MD_out_eq {v : Int32} {a b : Int64} : MD_out v.toInt64 a b = some (if v.toInt < a.toInt then -4 else if b.toInt < v.toInt then -6 else 0) := by
  unfold MD_out
  simp only [lg_cmp_ge, lg_cmp_le, l_le, Int32.toInt_toInt64]
  by_cases h1 : a.toInt ≤ v.toInt
  · by_cases h2 : v.toInt ≤ b.toInt
    · simp only [h1, h2, if_true, show ¬ v.toInt < a.toInt by omega, show ¬ b.toInt < v.toInt by omega, if_false]
    · simp only [h1, h2, if_true, show ¬ v.toInt < a.toInt by omega, show b.toInt < v.toInt by omega, if_false]
  · simp only [h1, show v.toInt < a.toInt by omega, if_true, if_false]
theorem MD_isIn_eq {v a b : Int64} : MD_isIn v a b = some (cI (a.toInt ≤ v.toInt ∧ v.toInt ≤ b.toInt)) := by
  unfold MD_isIn
  simp only [lg_cmp_lt, lg_cmp_gt, l_lt]
  by_cases h1 : v.toInt < a.toInt
  · rw [if_pos h1, cI_f (by omega)]
  · rw [if_neg h1]
    by_cases h2 : b.toInt < v.toInt
    · rw [if_pos h2, cI_f (by omega)]
    · rw [if_neg h2, cI_t (by omega)]
theorem MD_isKind_eq {v : Int32} : MD_isKind v = some (cI (inrB v 3 = true)) := by
  unfold MD_isKind
  rw [show (3 : Int32) = nI 3 from rfl, rng (by omega)]
  unfold cI; split <;> rfl
theorem MD_isSameness_eq {v : Int32} : MD_isSameness v = some (cI (inrB v 5 = true)) := by
  unfold MD_isSameness
  rw [show (5 : Int32) = nI 5 from rfl, rng (by omega)]
  unfold cI; split <;> rfl
theorem MD_isPerson_eq {v : Int32} {M : Mem} {n : Nat} (hn : M 33 8 = nI n) (h7 : n ≤ 7) : MD_isPerson v M = some (cI (inrB v n = true)) := by
  unfold MD_isPerson
  rw [hn, rng (by omega)]
  unfold cI; split <;> rfl
theorem MD_strong_eq {M : Mem} {S : Nat → Nat} {k x z : Nat} (h : Tbl M 49 S) (hk : k < 3) (hx : x < 7) (hz : z < 7) : MD_strong (nI k) (nI x) (nI z) M = some (nI (sg S k x z)) := by
  unfold MD_strong
  have ec : ((49 * nI k) + (7 * nI x)) + nI z = nI (49 * k + 7 * x + z) := by
    rw [show (49 : Int32) = nI 49 from rfl, show (7 : Int32) = nI 7 from rfl]
    simp only [pk_mul, nI_add]
  rw [ec, if_pos ((inb_nI (by omega)).mpr (by omega)), rd_nI (by omega), (h _ (by omega)).1]
  rfl
theorem MD_has_eq {M : Mem} {S : Nat → Nat} {k x z : Nat} (h : Tbl M 49 S) (hk : k < 3) (hx : x < 7) (hz : z < 7) : MD_has (nI k) (nI x) (nI z) M = some (cI (0 < sg S k x z)) := by
  unfold MD_has
  have hb := sg_le h hk hx hz
  rw [MD_strong_eq h hk hx hz, bind_s]
  simp (disch := omega) only [nI_pos_iff]
  by_cases h0 : sg S k x z = 0
  · rw [if_pos h0, cI_f (by omega)]
  · rw [if_neg h0, cI_t (by omega)]
set_option maxHeartbeats 1000000 in
theorem MD_opens_wp {k n : Nat} {v : Int32} {M : Mem} (hk : k = 50 ∨ k = 51) (h1 : 1 ≤ n) (h7 : n ≤ 7) (hn : M 33 8 = nI n) : wp (MD_opens v k M) (fun r => Fr [k] M r.2 ∧ ((∃ p, opn n v = some p ∧ r.1 = nI (top p n) ∧ AR r.2 k n p) ∨ (opn n v = none ∧ r.1 = -1))) := by
  have ha : aln k = 7 := by rcases hk with rfl | rfl <;> rfl
  have h33 : (33 : Nat) ∉ [k] := by rcases hk with rfl | rfl <;> decide
  unfold MD_opens
  by_cases hneg : v < 0
  · rw [if_neg (by rw [i_le, i_0]; rw [i_lt, i_0] at hneg; omega)]
    exact wp_some ⟨Fr.rf, Or.inr ⟨opn_neg hneg, rfl⟩⟩
  rw [if_pos (by rw [i_le, i_0]; rw [i_lt, i_0] at hneg; omega), nm_e', hn]
  obtain ⟨m, hm, rfl⟩ := nI_of hneg
  refine LOOP_down2 (fun x (w : Int32) (t : Mem) => (w, nI x - 1, t)) (fun x w t => Fr [k] M t ∧ x ≤ n ∧ w = nI (m / 10 ^ (n - x)) ∧ ∀ y, x ≤ y → y < n → t k y = nI (dg n m y)) (fun o => wp o _) ?_ ?_ n (nI m) _ (by omega) ?_
  · rintro x w m1 ag ⟨hf, hx, d1, d2⟩ ih
    show wp (MD_opens_L16 k _ ag w (nI (x + 1) - 1) m1) _
    unfold MD_opens_L16
    have hlt : m / 10 ^ (n - (x + 1)) < 2 ^ 31 := Nat.lt_of_le_of_lt (Nat.div_le_self _ _) hm
    rw [nI_pred, if_neg (nI_pos (by omega)), if_pos ((inb_nI (by omega)).mpr (by omega)), nm_e', nm_e', i_m1, wr_nI (by omega)]
    refine ih (w / 10) _ ⟨hf.tr (Fr.st (by simp)), by omega, ?_, fun y hy hyn => ?_⟩
    · have e : n - x = n - (x + 1) + 1 := by omega
      rw [d1, jdiv10 hlt, Nat.div_div_eq_div_mul, e, Nat.pow_succ]
    · rw [st2_s]
      by_cases e : y = x
      · subst e
        rw [upd_s, d1, jrem10 hlt]
        unfold dg
        rw [show n - (y + 1) = n - 1 - y by omega]
      · rw [upd_n e]; exact d2 y (by omega) hyn
  · rintro w m1 ag ⟨hf, hx, d1, d2⟩
    show wp (MD_opens_L16 k _ ag w (nI 0 - 1) m1) _
    unfold MD_opens_L16
    rw [if_pos down0]
    have hlt : m / 10 ^ (n - 0) < 2 ^ 31 := Nat.lt_of_le_of_lt (Nat.div_le_self _ _) hm
    have hp := pw10 h7
    rw [d1, show (0 : Int32) = nI 0 from rfl]
    simp only [nI_eq hlt (show 0 < 2 ^ 31 by omega)]
    have hz : m / 10 ^ (n - 0) = 0 ↔ m < 10 ^ n := by
      rw [Nat.sub_zero, Nat.div_eq_zero_iff]
      have : 0 < 10 ^ n := Nat.pow_pos (by omega)
      omega
    by_cases hb : m < 10 ^ n
    · rw [if_pos (hz.mpr hb)]
      have hdg := fun x => dg_lt n m x
      have e1 := hf 33 h33
      have e3 : AR m1 k n (dg n m) := fun y hy => d2 y (by omega) hy
      refine LOOP_up (fun x (t : Int32) => (t, nI x)) n (by omega) (fun x t => t = nI (top (dg n m) x) ∧ ∀ y, y < x → dg n m y ≤ top (dg n m) y) (fun o => wp o _) ?_ ?_ 0 (nI 0) (by omega) ⟨rfl, fun y hy => by omega⟩
      · rintro x t ag hx ⟨rfl, e4⟩ ih
        show wp (MD_opens_L52 k m1 _ ag (nI (top (dg n m) x)) (nI x)) _
        unfold MD_opens_L52
        have htop : top (dg n m) x ≤ 10 := top_le (fun y _ => hdg y)
        have hx9 := hdg x
        simp (disch := omega) only [e1, hn, nI_leI, show ¬ n ≤ x by omega, if_false, inb_nI, show x < aln k by omega, if_true, rd_nI, e3 x hx, nI_eq]
        refine wp_ite (fun hc => ?_) (fun hc => ?_)
        · have hst : ∀ y, y < x + 1 → dg n m y ≤ top (dg n m) y := fun y hy => by
            by_cases e : y = x
            · subst e; exact hc
            · exact e4 y (by omega)
          refine wp_ite (fun hc2 => ?_) (fun hc2 => ?_)
          · rw [show (1 : Int32) = nI 1 from rfl, nI_add, nI_add]
            refine ih _ ⟨?_, hst⟩
            rw [top_s]; congr 1; omega
          · rw [show (1 : Int32) = nI 1 from rfl, nI_add]
            refine ih _ ⟨?_, hst⟩
            rw [top_s]; congr 1; omega
        · exact wp_some ⟨hf, Or.inr ⟨opn_bad hm (fun hr => hc (hr x hx)), rfl⟩⟩
      · rintro t ag ⟨rfl, e4⟩
        show wp (MD_opens_L52 k m1 _ ag _ (nI n)) _
        unfold MD_opens_L52
        simp (disch := omega) only [e1, hn, nI_leI, Nat.le_refl, if_true]
        exact wp_some ⟨hf, Or.inl ⟨_, opn_nI hm hb e4, rfl, e3⟩⟩
    · rw [if_neg (fun z => hb (hz.mp z))]
      exact wp_some ⟨hf, Or.inr ⟨opn_big hm hb, rfl⟩⟩
  · exact ⟨Fr.rf, Nat.le_refl _, by rw [Nat.sub_self]; simp, fun y hy hyn => by omega⟩
set_option maxHeartbeats 1000000 in
theorem MD_number_wp {k n : Nat} {p : Nat → Nat} {M : Mem} (hk : k < 61) (hkne : k ≠ 53) (hk33 : k ≠ 33) (ha : aln k = 7) (h7 : n ≤ 7) (hn : M 33 8 = nI n) (h : AR M k n p) (hp : ∀ x, x < n → p x < 100) : wp (MD_number k M) (fun r => Fr [53] M r.2 ∧ r.1 = nI (num (cn p) n)) := by
  unfold MD_number
  have hcn : ∀ x, x < n → cn p x < 7 := fun x hx => by
    have h1 := lb_RGS (eqr p) n
    have h2 := h1.lt hx
    have : cn p x ≤ x := h2
    omega
  refine LOOP_up3 (fun x (a c : Int32) (t : Mem) => (a, c, nI x, t)) n (by omega) (fun x a c t => Fr [53] M t ∧ a = nI (num (cn p) x) ∧ c = nI (nwr (eqr p) x) ∧ AR t 53 x (cn p)) (fun o => wp o _) ?_ ?_ 0 (nI 0) (nI 0) M (by omega) ⟨Fr.rf, rfl, rfl, fun j hj => by omega⟩
  · rintro x a c t ag hx ⟨hf, rfl, rfl, g⟩ ih
    show wp (MD_number_L7 k _ ag _ _ (nI x) t) _
    unfold MD_number_L7
    have e33 := hf 33 (by simp)
    have ek := hf k (by simp [hkne])
    rw [e33, hn]
    simp (disch := omega) only [nI_leI, show ¬ n ≤ x by omega, if_false, nm_e']
    refine LOOP_down (fun y (f : Int32) => (f, nI y - 1)) (fun y f => y ≤ x ∧ ∃ g, f = nI g ∧ y ≤ g ∧ g ≤ x ∧ p g = p x ∧ ∀ z, y ≤ z → z < g → p z ≠ p x) (fun o => wp o _) ?_ ?_ x (nI x) (by omega) ⟨Nat.le_refl _, x, rfl, Nat.le_refl _, Nat.le_refl _, rfl, fun z h1 h2 => by omega⟩
    · rintro y f ag' ⟨hy, g0, rfl, b1, b2, b3, b4⟩ ih'
      show wp (MD_number_L26 k (nI x) t _ ag' (nI g0) (nI (y + 1) - 1)) _
      unfold MD_number_L26
      have hpx := hp x hx
      have hpy := hp y (by omega)
      rw [nI_pred, if_neg (nI_pos (by omega)), i_m1]
      simp (disch := omega) only [inb_nI, show y < aln k by omega, show x < aln k by omega, if_true, rd_nI, ek, h y (by omega), h x hx, nI_eq]
      refine wp_ite (fun hc => ?_) (fun hc => ?_)
      · exact ih' (nI y) ⟨by omega, y, rfl, Nat.le_refl _, by omega, hc, fun z h1 h2 => by omega⟩
      · refine ih' (nI g0) ⟨by omega, g0, rfl, by omega, b2, b3, fun z h1 h2 => ?_⟩
        by_cases e : z = y
        · subst e; exact hc
        · exact b4 z (by omega) h2
    · rintro f ag' ⟨hy, g0, rfl, b1, b2, b3, b4⟩
      show wp (MD_number_L26 k (nI x) t _ ag' (nI g0) (nI 0 - 1)) _
      unfold MD_number_L26
      rw [if_pos down0]
      dsimp only
      rw [jp_e]
      have hfs : fs p x = g0 := by
        have h1 := fs_min b3 b2
        have h2 := fs_eq p x
        rcases Nat.lt_or_ge (fs p x) g0 with z | z
        · exact absurd h2 (b4 _ (Nat.zero_le _) z)
        · omega
      have hfin : ∀ (t' : Mem) (c : Nat), Fr [53] M t' → t' 53 x = nI (cn p x) → AR t' 53 x (cn p) → c = nwr (eqr p) (x + 1) → wp (if inb (nI x) 7 then ag ((10 * nI (num (cn p) x)) + (rd t' 53 (nI x)), nI c, nI x + 1, t') else none) (fun r => Fr [53] M r.2 ∧ r.1 = nI (num (cn p) n)) := by
        intro t' c hf' h1 h2 h3
        rw [if_pos ((inb_nI (by omega)).mpr (by omega)), rd_nI (by omega), h1, show (10 : Int32) = nI 10 from rfl, show (1 : Int32) = nI 1 from rfl, pk_mul, nI_add, nI_add]
        refine ih _ _ t' ⟨hf', ?_, by rw [h3], fun j hj => ?_⟩
        · rw [num_s]; congr 1; omega
        · by_cases e : j = x
          · subst e; exact h1
          · exact h2 j (by omega)
      have es : nwr (eqr p) (x + 1) = nwr (eqr p) x + if fr (eqr p) x = x then 1 else 0 := rfl
      rw [fs_fr, hfs] at es
      simp (disch := omega) only [nI_eq]
      refine wp_ite (fun hc => ?_) (fun hc => ?_)
      · have hcx : cn p x = nwr (eqr p) x := by rw [cn_eq, hfs, hc]
        rw [if_pos ((inb_nI (by omega)).mpr (by omega)), wr_nI (by omega), show (1 : Int32) = nI 1 from rfl, nI_add]
        refine hfin _ _ (hf.tr (Fr.st (by simp))) (by rw [st2_s, upd_s, hcx]) (fun j hj => by rw [st2_s, upd_n (by omega)]; exact g j hj) ?_
        rw [es, if_pos hc]
      · have hcx : cn p x = cn p g0 := by rw [cn_eq, cn_eq, hfs, ← hfs, fs_fs]
        rw [if_pos ((inb_nI (by omega)).mpr (by omega)), if_pos ((inb_nI (by omega)).mpr (by omega)), wr_nI (by omega), show rd t 53 (nI g0) = nI (cn p g0) from by rw [rd_nI (by omega), g g0 (by omega)]]
        refine hfin _ _ (hf.tr (Fr.st (by simp))) (by rw [st2_s, upd_s, hcx]) (fun j hj => by rw [st2_s, upd_n (by omega)]; exact g j hj) ?_
        rw [es, if_neg hc, Nat.add_zero]
  · rintro a c t ag ⟨hf, rfl, rfl, g⟩
    show wp (MD_number_L7 k _ ag _ _ (nI n) t) _
    unfold MD_number_L7
    rw [hf 33 (by simp), hn]
    simp (disch := omega) only [nI_leI, Nat.le_refl, if_true]
    exact wp_some ⟨hf, rfl⟩
