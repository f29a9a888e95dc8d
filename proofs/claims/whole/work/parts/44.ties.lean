/-! by hand: ties: all of them; the class's side -/
theorem hN_lt {tb i c : Nat} {tp : Nat → Nat} (h : hN tb tp i ≤ c) (hc : c < 1000) : i < tb := (hI_in h hc).1
theorem yrd_tb {tb : Nat} {tp : Nat → Nat} : ∀ {f v i : Nat}, i ≤ tb → (yrd tb tp f v i).2 ≤ tb
  | 0, _, _, h => h
  | f + 1, v, i, h => by
    rw [yrd_s]
    split
    · rename_i c
      have := hN_lt c.2 (by omega)
      exact yrd_tb (by omega)
    · exact h
theorem year_tb {tb lo i v j : Nat} {tp : Nat → Nat} (h : year tb tp lo i = some (v, j)) (hi : i ≤ tb) : j ≤ tb := by
  unfold year at h
  split at h
  · cases h
  · have e := Option.some.inj h
    have := yrd_tb (tp := tp) (f := 3) (v := 0) hi
    rw [e] at this
    exact this
theorem tieY_ok {n tb a b k s j j' : Nat} {tp : Nat → Nat} {t : Nat → Nat} (h : tieY tb tp a b k s j = (some t, j')) (hj : j ≤ tb) (ha : a < n) (hb : b < n) (hab : a ≠ b) (hk : k < 3) (h1 : 1 ≤ s) (h9 : s ≤ 9) : j ≤ j' ∧ j' ≤ tb ∧ tieOk n t := by
  unfold tieY at h
  by_cases c1 : hN tb tp j = 64
  · rw [if_pos c1] at h
    have := hN_lt (tb := tb) (tp := tp) (i := j) (c := 64) (by omega) (by omega)
    rcases y1 : year tb tp 0 (j + 1) with _ | ⟨v, j2⟩
    · rw [y1] at h; cases h
    · rw [y1] at h
      dsimp only at h
      have l1 := year_le y1
      have l2 := year_tb y1 (by omega)
      by_cases c2 : hN tb tp j2 = 45
      · rw [if_pos c2] at h
        have := hN_lt (tb := tb) (tp := tp) (i := j2) (c := 45) (by omega) (by omega)
        rcases y2 : year tb tp (v + 1) (j2 + 1) with _ | ⟨w, j3⟩
        · rw [y2] at h; cases h
        · rw [y2] at h
          have l3 := year_le y2
          have l4 := year_tb y2 (by omega)
          cases h
          exact ⟨by omega, l4, ha, hb, hab, hk, h1, h9, l1.2.1, l3.2.1⟩
      · rw [if_neg c2] at h; cases h
  · rw [if_neg c1] at h
    cases h
    exact ⟨Nat.le_refl _, hj, ha, hb, hab, hk, h1, h9, Nat.zero_le _, Nat.le_refl _⟩
theorem tieR_ok {n tb i j : Nat} {tp : Nat → Nat} {t : Nat → Nat} (h7 : n ≤ 7) (h : tieR n tb tp i = (some t, j)) : i + 4 ≤ j ∧ j ≤ tb ∧ tieOk n t := by
  unfold tieR at h
  by_cases c0 : 97 ≤ hN tb tp i ∧ hN tb tp i < 97 + n
  · rw [if_pos c0] at h
    by_cases c1 : hN tb tp (i + 1) = 62
    · rw [if_pos c1] at h
      by_cases c2 : hN tb tp (i + 2) = hN tb tp i
      · rw [if_pos c2] at h; cases h
      rw [if_neg c2] at h
      by_cases c3 : 97 ≤ hN tb tp (i + 2) ∧ hN tb tp (i + 2) < 97 + n
      · rw [if_pos c3] at h
        by_cases c4 : 48 ≤ hN tb tp (i + 3) ∧ hN tb tp (i + 3) ≤ 50
        · rw [if_pos c4] at h
          have l4 := hN_lt c4.2 (by omega)
          by_cases c5 : hN tb tp (i + 4) = 42
          · rw [if_pos c5] at h
            by_cases c6 : 49 ≤ hN tb tp (i + 5) ∧ hN tb tp (i + 5) ≤ 57
            · rw [if_pos c6] at h
              have l6 := hN_lt c6.2 (by omega)
              have := tieY_ok h (by omega) (n := n) (by omega) (by omega) (by omega) (by omega) (by omega) (by omega)
              exact ⟨by omega, this.2⟩
            · rw [if_neg c6] at h; cases h
          · rw [if_neg c5] at h
            have := tieY_ok h (by omega) (n := n) (by omega) (by omega) (by omega) (by omega) (by omega) (by omega)
            exact ⟨by omega, this.2⟩
        · rw [if_neg c4] at h; cases h
      · rw [if_neg c3] at h; cases h
    · rw [if_neg c1] at h; cases h
  · rw [if_neg c0] at h; cases h
def upN (g : Nat → Nat → Nat) (m : Nat) (t : Nat → Nat) : Nat → Nat → Nat := fun u => if u = m then t else g u
/-- a tape of ties, one behind the other: is it good, where its reading ended, how many, which -/
def rda (n tb : Nat) (tp : Nat → Nat) : Nat → Nat → Nat → (Nat → Nat → Nat) → Bool × Nat × Nat × (Nat → Nat → Nat)
  | 0, i, m, g => (false, i, m, g)
  | d + 1, i, m, g => match tieR n tb tp i with
    | (none, j) => (false, j, m, g)
    | (some t, j) => if hN tb tp j = 59 then rda n tb tp d (j + 1) (m + 1) (upN g m t) else (j == tb, j, m + 1, upN g m t)
theorem rda_f {n tb d i m j : Nat} {tp : Nat → Nat} {g : Nat → Nat → Nat} (h : tieR n tb tp i = (none, j)) : rda n tb tp (d + 1) i m g = (false, j, m, g) := by
  show (match tieR n tb tp i with
    | (none, j) => (false, j, m, g)
    | (some t, j) => if hN tb tp j = 59 then rda n tb tp d (j + 1) (m + 1) (upN g m t) else (j == tb, j, m + 1, upN g m t)) = _
  rw [h]
theorem rda_t {n tb d i m j : Nat} {tp : Nat → Nat} {g : Nat → Nat → Nat} {t : Nat → Nat} (h : tieR n tb tp i = (some t, j)) : rda n tb tp (d + 1) i m g = if hN tb tp j = 59 then rda n tb tp d (j + 1) (m + 1) (upN g m t) else (j == tb, j, m + 1, upN g m t) := by
  show (match tieR n tb tp i with
    | (none, j) => (false, j, m, g)
    | (some t, j) => if hN tb tp j = 59 then rda n tb tp d (j + 1) (m + 1) (upN g m t) else (j == tb, j, m + 1, upN g m t)) = _
  rw [h]
theorem rda_ok {n tb : Nat} {tp : Nat → Nat} (h7 : n ≤ 7) : ∀ {d i m : Nat} {g : Nat → Nat → Nat}, (∀ u, u < m → tieOk n (g u)) → ∀ u, u < (rda n tb tp d i m g).2.2.1 → tieOk n ((rda n tb tp d i m g).2.2.2 u)
  | 0, i, m, g, hg, u, hu => hg u hu
  | d + 1, i, m, g, hg, u, hu => by
    rcases hT : tieR n tb tp i with ⟨_ | t, j⟩
    · rw [rda_f hT] at hu ⊢; exact hg u hu
    · rw [rda_t hT] at hu ⊢
      have ht := (tieR_ok h7 hT).2.2
      have hg' : ∀ u, u < m + 1 → tieOk n (upN g m t u) := fun u hu => by
        unfold upN
        by_cases e : u = m
        · rw [if_pos e]; exact ht
        · rw [if_neg e]; exact hg u (by omega)
      by_cases c : hN tb tp j = 59
      · rw [if_pos c] at hu ⊢; exact rda_ok h7 hg' u hu
      · rw [if_neg c] at hu ⊢; exact hg' u hu
def rd0 (n tb : Nat) (tp : Nat → Nat) : Bool × Nat × Nat × (Nat → Nat → Nat) := rda n tb tp 13 0 0 (fun _ _ => 0)
def RWS (M : Mem) (k m : Nat) (g : Nat → Nat → Nat) : Prop := ∀ u, u < m → ∀ s, s < 6 → M k (u * 6 + s) = nI (g u s)
set_option maxHeartbeats 1000000 in
theorem Ta_readAll_wp {n tb : Nat} {tp : Nat → Nat} {M : Mem} (h1n : 1 ≤ n) (h7 : n ≤ 7) (htb : tb ≤ 60) (hb : ∀ i, i < tb → tp i < 256) (ha : AR M 7 tb tp) (h6 : M 6 2 = nI tb) : wp (Ta_readAll (nI n) M) (fun r => Fr [6, 8, 9] M r.2 ∧ r.1 = cI ((rd0 n tb tp).1 = true) ∧ r.2 6 3 = nI (rd0 n tb tp).2.1 ∧ ((rd0 n tb tp).1 = true → (rd0 n tb tp).2.2.1 < 20 ∧ r.2 8 1 = nI (rd0 n tb tp).2.2.1 ∧ RWS r.2 9 (rd0 n tb tp).2.2.1 (rd0 n tb tp).2.2.2)) := by
  unfold Ta_readAll Td_drain
  simp only [nm_e', bind_s]
  obtain ⟨R, hR⟩ : ∃ R, R = rd0 n tb tp := ⟨_, rfl⟩
  rw [← hR]
  have hdone : ∀ (t : Mem) (j m : Nat) (g : Nat → Nat → Nat), m < 20 → Fr [6, 8, 9] M t → CT t n tb tp j m → RWS t 9 m g → R = (j == tb, j, m, g) → j ≤ 1000 → wp (β := Int32 × Mem) (if t 6 3 = t 6 2 then some (1, t) else some (0, t)) (fun r => Fr [6, 8, 9] M r.2 ∧ r.1 = cI (R.1 = true) ∧ r.2 6 3 = nI R.2.1 ∧ (R.1 = true → R.2.2.1 < 20 ∧ r.2 8 1 = nI R.2.2.1 ∧ RWS r.2 9 R.2.2.1 R.2.2.2)) := fun t j m g hm hf hc hw he hj => by
    rw [he, hc.1, hc.2.1]
    dsimp only
    by_cases c : j = tb
    · rw [if_pos (by rw [c])]
      exact wp_some ⟨hf, by rw [c, beq_self_eq_true]; rfl, hc.2.1, fun _ => ⟨hm, hc.2.2.2.2, hw⟩⟩
    · rw [if_neg (by rw [nI_eq (by omega) (by omega)]; exact c)]
      exact wp_some ⟨hf, by rw [beq_eq_false_iff_ne.mpr c]; rfl, hc.2.1, fun z => by rw [beq_eq_false_iff_ne.mpr c] at z; cases z⟩
  refine LOOP_inv (fun d (s : Int32 × Int32 × Mem) => Fr [6, 8, 9] M s.2.2 ∧ ((s.1 = 0 ∧ d = 0 ∧ ∃ j m g, m < 20 ∧ CT s.2.2 n tb tp j m ∧ RWS s.2.2 9 m g ∧ R = (j == tb, j, m, g) ∧ j ≤ 1000 ∧ ∃ q, s.2.1 = nI q ∧ q < 100) ∨ (s.1 = 1 ∧ ∃ i m g, d = 13 - m ∧ 5 * m ≤ i ∧ i ≤ tb ∧ s.2.1 = nI m ∧ CT s.2.2 n tb tp i m ∧ RWS s.2.2 9 m g ∧ rda n tb tp (13 - m) i m g = R))) (fun o => wp o _) ?_ FU 13 (1, 0, _) (by unfold FU; omega) ⟨((Fr.st (by simp)).tr (Fr.st (by simp))).tr (Fr.st (by simp)), Or.inr ⟨rfl, 0, 0, _, rfl, by omega, by omega, rfl, ?_, fun u hu => by omega, hR.symm⟩⟩
  · rintro d ⟨v2, v3, t⟩ ag ⟨hf, hv⟩ ih
    dsimp only at hf hv
    show wp (Ta_readAll_L21 _ ag v2 v3 t) _
    unfold Ta_readAll_L21
    rcases hv with ⟨rfl, -, j, m, g, a1, a2, a3, a4, a5, q, rfl, a6⟩ | ⟨rfl, i, m, g, rfl, a1, a2, rfl, a4, a5, a6⟩
    · rw [if_pos rfl, ite_self]
      exact hdone t j m g a1 hf a2 a3 a4 a5
    · have ho : CTok n tb tp m := ⟨h7, htb, hb, by omega⟩
      rw [if_neg (by rw [show (60 : Int32) = nI 60 from rfl, nI_ltI (by omega) (by omega)]; omega), if_neg one_ne0]
      refine wp_bnd2 (Ta_readTie_wp ho h1n a4 (by omega)) (fun r1 M5 h5 => ?_)
      obtain ⟨g5, c5, e5, h5⟩ := h5
      dsimp only at g5 c5 e5 h5
      have f5 : Fr [6, 8, 9] M M5 := hf.tr (g5.mo (by simp))
      have hd1 : 13 - m = (13 - (m + 1)) + 1 := by omega
      rcases hT : tieR n tb tp i with ⟨x, j⟩
      rw [hT] at c5 h5
      dsimp only at c5 h5
      rcases h5 with ⟨t5, rfl, rfl, h9⟩ | ⟨rfl, rfl⟩
      · obtain ⟨l1, l2, l3⟩ := tieR_ok h7 hT
        rw [if_neg one_ne0]
        unfold Td_endDraft
        rw [c5.2.2.2.2, if_neg (by rw [show (60 : Int32) = nI 60 from rfl, nI_leI (by omega) (by omega)]; omega), nm_e', bind_s, nI_1]
        have c6 : CT (st2 M5 8 1 (nI (m + 1))) n tb tp j (m + 1) := by
          obtain ⟨b1, b2, b3, b4, b5⟩ := c5
          exact ⟨by rw [st2_n (by decide)]; exact b1, by rw [st2_n (by decide)]; exact b2, by rw [st2_n (by decide)]; exact b3, b4.fr (st2_n (by decide)), by rw [st2_s, upd_s]⟩
        have ho' : CTok n tb tp (m + 1) := ⟨h7, htb, hb, by omega⟩
        refine wp_bnd2 (Ta_skip_wp (c := 59) ho' c6 (by omega) (by omega)) (fun r2 M7 h7' => ?_)
        obtain ⟨g7, h7'⟩ := h7'
        dsimp only at g7 h7'
        have f7 : Fr [6, 8, 9] M M7 := (f5.tr (Fr.st (by simp))).tr (g7.mo (by simp))
        have w7 : RWS M7 9 (m + 1) (upN g m t5) := fun u hu s hs => by
          rw [g7 9 (by decide), st2_n (by decide)]
          unfold upN
          by_cases e : u = m
          · rw [if_pos e, e]; exact h9 s hs
          · rw [if_neg e, e5 _ (by omega)]; exact a5 u (by omega) s hs
        rw [hd1, rda_t hT] at a6
        rcases h7' with ⟨c, rfl, t7⟩ | ⟨c, rfl, t7⟩
        · rw [if_pos c] at a6
          have := hN_lt (tb := tb) (tp := tp) (i := j) (c := 59) (by omega) (by omega)
          exact ih _ _ (by omega) ⟨f7, Or.inr ⟨rfl, j + 1, m + 1, _, rfl, by omega, by omega, rfl, t7, w7, a6⟩⟩
        · rw [if_neg c] at a6
          exact ih 0 _ (by omega) ⟨f7, Or.inl ⟨rfl, rfl, j, m + 1, _, by omega, t7, w7, a6.symm, by omega, m + 1, rfl, by omega⟩⟩
      · rw [if_pos rfl]
        rw [hd1, rda_f hT] at a6
        rw [← a6]
        exact wp_some ⟨f5, rfl, c5.2.1, fun z => by cases z⟩
  · show CT (st2 (st2 (st2 M 6 4 (nI n)) 6 3 0) 8 1 0) n tb tp 0 0
    refine ⟨?_, ?_, ?_, ?_, ?_⟩
    · rw [st2_n (by decide), st2_s, upd_n (by decide), st2_s, upd_n (by decide)]; exact h6
    · rw [st2_n (by decide), st2_s, upd_s]; rfl
    · rw [st2_n (by decide), st2_s, upd_n (by decide), st2_s, upd_s]
    · exact ha.fr (by rw [st2_n (by decide), st2_n (by decide), st2_n (by decide)])
    · rw [st2_s, upd_s]; rfl
/-- the state behind it, the answer -/
def R_ties (σ : Sg) : Ans := match σ with
  | (n, y, nt, tb, nc, ma, tf, tp, nf, rf) =>
    if (rd0 n tb tp).1 = true then
      if nt + (rd0 n tb tp).2.2.1 ≤ 60 then ((n, y, nt + (rd0 n tb tp).2.2.1, 0, nc, ma, fun i => if i < nt then tf i else (rd0 n tb tp).2.2.2 (i - nt), tp, nf, rf), nI (nt + (rd0 n tb tp).2.2.1))
      else no (n, y, nt, 0, nc, ma, tf, tp, nf, rf) 6
    else ((n, y, nt, 0, nc, ma, tf, tp, nf, rf), -20 - nI (rd0 n tb tp).2.1)
theorem aln5 : aln 5 = 360 := rfl
set_option maxHeartbeats 1000000 in
theorem Td_takeAll_wp {nt m : Nat} {tf g : Nat → Nat → Nat} {M : Mem} (h : nt + m ≤ 60) (hm : m < 20) (h4 : M 4 1 = nI nt) (h8 : M 8 1 = nI m) (h5 : RWS M 5 nt tf) (h9 : RWS M 9 m g) : wp (Td_takeAll M) (fun M' => Fr [4, 5] M M' ∧ M' 4 1 = nI (nt + m) ∧ RWS M' 5 (nt + m) (fun i => if i < nt then tf i else g (i - nt))) := by
  unfold Td_takeAll
  refine LOOP_up (fun u (t : Mem) => (nI u, t)) m (by omega) (fun u t => Fr [4, 5] M t ∧ t 4 1 = nI (nt + u) ∧ RWS t 5 (nt + u) (fun i => if i < nt then tf i else g (i - nt))) (fun o => wp o _) ?_ ?_ 0 M (by omega) ⟨Fr.rf, h4, fun u hu s hs => by rw [h5 u (by omega) s hs]; dsimp only; rw [if_pos (by omega)]⟩
  · rintro u t ag hu ⟨hf, a1, a2⟩ ih
    show wp (Td_takeAll_L2 _ ag (nI u) t) _
    unfold Td_takeAll_L2
    rw [hf 8 (by decide), h8, if_neg (by rw [nI_leI (by omega) (by omega)]; omega)]
    refine LOOP_up (fun s (t : Mem) => (nI s, t)) 6 (by omega) (fun s t => Fr [4, 5] M t ∧ t 4 1 = nI (nt + u) ∧ RWS t 5 (nt + u) (fun i => if i < nt then tf i else g (i - nt)) ∧ ∀ q, q < s → t 5 ((nt + u) * 6 + q) = nI (g u q)) (fun o => wp o _) ?_ ?_ 0 t (by omega) ⟨hf, a1, a2, fun q hq => by omega⟩
    · rintro s t ag' hs ⟨hf, a1, a2, a3⟩ ih'
      show wp (Td_takeAll_L12 (nI u) _ ag' (nI s) t) _
      unfold Td_takeAll_L12
      rw [if_neg (by rw [show (6 : Int32) = nI 6 from rfl, nI_leI (by omega) (by omega)]; omega), Td_field_nI isT_8 (by omega) hs, bind_s, show 8 + 1 = 9 from rfl, hf 9 (by decide), h9 u hu s hs]
      unfold Td_draft
      rw [a1, show (6 : Int32) = nI 6 from rfl, pk_mul, nI_add, show 4 + 1 = 5 from rfl, SP_put_nI (by rw [aln5]; omega) (by rw [aln5]; omega), bind_s, bind_s, nI_1]
      refine ih' _ ⟨hf.tr (Fr.st (by simp)), by rw [st2_n (by decide)]; exact a1, fun v hv q hq => ?_, fun q hq => ?_⟩
      · rw [st2_s, upd_n (by omega)]; exact a2 v hv q hq
      · rw [st2_s]
        by_cases e : q = s
        · subst e; rw [upd_s]
        · rw [upd_n (by omega)]; exact a3 q (by omega)
    · rintro t ag' ⟨hf, a1, a2, a3⟩
      show wp (Td_takeAll_L12 (nI u) _ ag' (nI 6) t) _
      unfold Td_takeAll_L12
      rw [if_pos (by decide)]
      unfold Td_endDraft
      dsimp only
      rw [a1, if_neg (by rw [show (60 : Int32) = nI 60 from rfl, nI_leI (by omega) (by omega)]; omega), nm_e', bind_s, nI_1, nI_1]
      refine ih _ ⟨hf.tr (Fr.st (by simp)), by rw [st2_s, upd_s]; congr 1, fun v hv q hq => ?_⟩
      rw [st2_n (by decide)]
      by_cases e : v = nt + u
      · rw [e, a3 q hq]
        dsimp only
        rw [if_neg (by omega), show nt + u - nt = u by omega]
      · exact a2 v (by omega) q hq
  · rintro t ag ⟨hf, a1, a2⟩
    show wp (Td_takeAll_L2 _ ag (nI m) t) _
    unfold Td_takeAll_L2
    rw [hf 8 (by decide), h8, if_pos (by rw [nI_leI (by omega) (by omega)]; omega)]
    exact wp_some ⟨hf, a1, a2⟩
theorem SP_ties_wp {σ : Sg} {M : Mem} (hw : WF σ) (h : RC M σ) : wp (SP_ties M) (EC (R_ties σ) M) := by
  obtain ⟨n, y, nt, tb, nc, ma, tf, tp, nf, rf⟩ := σ
  obtain ⟨w1, w2, w3, w4, w5, w6, w7, w8, w9, w10⟩ := hw
  obtain ⟨a1, a2, a3, a4, a5, a6, a7, a8, a9, a10⟩ := h
  unfold SP_ties R_ties
  rw [a1]
  refine wp_bnd2 (Ta_readAll_wp w1 w2 w5 w9 a8 a4) (fun r M1 h1 => ?_)
  obtain ⟨f1, e1, p1, q1⟩ := h1
  dsimp only at f1 e1 p1 q1 ⊢
  rw [nm_e']
  obtain ⟨R, hR⟩ : ∃ R, R = rd0 n tb tp := ⟨_, rfl⟩
  rw [← hR] at e1 p1 q1 ⊢
  have e6 : st2 M1 6 2 0 6 3 = nI R.2.1 := by rw [st2_s, upd_n (by decide)]; exact p1
  have hrc : RC (st2 M1 6 2 0) (n, y, nt, 0, nc, ma, tf, tp, nf, rf) := by
    refine ⟨?_, ?_, ?_, ?_, ?_, ?_, ?_, ?_, ?_, ?_⟩
    · rw [st2_n (by decide), f1 1 (by decide)]; exact a1
    · rw [st2_n (by decide), f1 0 (by decide)]; exact a2
    · rw [st2_n (by decide), f1 4 (by decide)]; exact a3
    · rw [st2_s, upd_s]; rfl
    · rw [st2_n (by decide), f1 10 (by decide)]; exact a5
    · exact a6.fr (by rw [st2_n (by decide), f1 2 (by decide)])
    · intro i hi j hj; rw [st2_n (by decide), f1 5 (by decide)]; exact a7 i hi j hj
    · intro i hi; omega
    · intro i hi
      rw [st2_n (by decide), f1 11 (by decide), st2_n (by decide), f1 12 (by decide), st2_n (by decide), f1 13 (by decide)]; exact a9 i hi
    · intro i hi; rw [st2_n (by decide), f1 32 (by decide)]; exact a10 i hi
  have hhi : ∀ k, 33 ≤ k → st2 M1 6 2 0 k = M k := fun k hk => by rw [st2_n (by omega), f1 k (by simp; omega)]
  rw [e1, e6]
  by_cases c : R.1 = true
  · obtain ⟨q2, q3, q4⟩ := q1 c
    have e8 : st2 M1 6 2 0 8 1 = nI R.2.2.1 := by rw [st2_n (by decide)]; exact q3
    have w9' : RWS (st2 M1 6 2 0) 9 R.2.2.1 R.2.2.2 := fun u hu s hs => by rw [st2_n (by decide)]; exact q4 u hu s hs
    rw [if_neg (by rw [cI_0]; exact not_not_intro c), if_pos c, hrc.2.2.1, e8, nI_add, show (60 : Int32) = nI 60 from rfl]
    by_cases c2 : nt + R.2.2.1 ≤ 60
    · rw [if_pos ((nI_leI (by omega) (by omega)).mpr c2), if_pos c2]
      refine wp_bind (Td_takeAll_wp c2 q2 hrc.2.2.1 e8 hrc.2.2.2.2.2.2.1 w9') (fun M3 h3 => ?_)
      obtain ⟨f3, b1, b2⟩ := h3
      rw [b1]
      obtain ⟨a1, a2, a3, a4, a5, a6, a7, a8, a9, a10⟩ := hrc
      refine wp_some (ec_ok ⟨?_, ?_, b1, ?_, ?_, ?_, b2, ?_, ?_, ?_⟩ (fun k hk => ?_))
      · rw [f3 1 (by decide)]; exact a1
      · rw [f3 0 (by decide)]; exact a2
      · rw [f3 6 (by decide)]; exact a4
      · rw [f3 10 (by decide)]; exact a5
      · exact a6.fr (f3 2 (by decide))
      · exact a8.fr (f3 7 (by decide))
      · rw [f3 11 (by decide), f3 12 (by decide), f3 13 (by decide)]; exact a9
      · rw [f3 32 (by decide)]; exact a10
      · rw [f3 k (by simp; omega)]; exact hhi k hk
    · rw [if_neg (fun z => c2 ((nI_leI (by omega) (by omega)).mp z)), if_neg c2]
      exact SP_no6 hrc hhi
  · rw [if_pos (by rw [cI_0]; exact c), if_neg c]
    exact wp_some (ec_ok hrc hhi)
