/-! by hand: ties: all ties read, kept: the reference -/
theorem FM.rf {M : Mem} : FM M M := ⟨fun _ _ => rfl, fun _ _ _ => rfl⟩
theorem FM.tr {M M' M'' : Mem} (h : FM M M') (h' : FM M' M'') : FM M M'' := ⟨fun k hk => (h'.1 k hk).trans (h.1 k hk), fun s h1 h2 => (h'.2 s h1 h2).trans (h.2 s h1 h2)⟩
theorem MB.fm {M M' : Mem} {n tb : Nat} {tp : Nat → Nat} (h : MB M n tb tp) (hf : FM M M') : MB M' n tb tp := by
  obtain ⟨b0, b1, b2, b3, b4, b5, b6⟩ := h
  exact ⟨b0, b1, b2, b3, by rw [hf.2 12 (by decide) (by decide)]; exact b4, by rw [hf.2 8 (by decide) (by decide)]; exact b5, b6.fr (hf.1 42 (by decide))⟩
theorem FM.of {M0 M M' : Mem} {i m : Nat} (h : FM M0 M) (h' : MT M M' i m) : FM M0 M' := h.tr h'.1
def MROWS (M : Mem) (m : Nat) (g : Nat → Nat → Nat) : Prop := ∀ u, u < m → MROW M u (g u)
theorem MROW.rc {M M' : Mem} {m u : Nat} {g : Nat → Nat} (h : MROW M u g) (hr : MRC M M' m) (hu : u < m) : MROW M' u g := by
  obtain ⟨h1, h2, h3, h4, h5, h6⟩ := h
  exact ⟨by rw [hr 43 (by omega) (by omega) u hu]; exact h1, by rw [hr 44 (by omega) (by omega) u hu]; exact h2, by rw [hr 45 (by omega) (by omega) u hu]; exact h3, by rw [hr 46 (by omega) (by omega) u hu]; exact h4, by rw [hr 47 (by omega) (by omega) u hu]; exact h5, by rw [hr 48 (by omega) (by omega) u hu]; exact h6⟩
theorem MROW.eq {M M' : Mem} {u : Nat} {g : Nat → Nat} (h : MROW M u g) (e : ∀ k, 43 ≤ k → k ≤ 48 → M' k = M k) : MROW M' u g := by
  obtain ⟨h1, h2, h3, h4, h5, h6⟩ := h
  exact ⟨by rw [e 43 (by omega) (by omega)]; exact h1, by rw [e 44 (by omega) (by omega)]; exact h2, by rw [e 45 (by omega) (by omega)]; exact h3, by rw [e 46 (by omega) (by omega)]; exact h4, by rw [e 47 (by omega) (by omega)]; exact h5, by rw [e 48 (by omega) (by omega)]; exact h6⟩
set_option maxHeartbeats 1000000 in
theorem MD_reads_wp {n tb : Nat} {tp : Nat → Nat} {M : Mem} (hb : MB M n tb tp) : wp (MD_reads M) (fun r => FM M r.2 ∧ r.1 = cI ((rd0 n tb tp).1 = true) ∧ r.2 33 13 = nI (rd0 n tb tp).2.1 ∧ ((rd0 n tb tp).1 = true → (rd0 n tb tp).2.2.1 < 20 ∧ r.2 33 14 = nI (rd0 n tb tp).2.2.1 ∧ MROWS r.2 (rd0 n tb tp).2.2.1 (rd0 n tb tp).2.2.2)) := by
  have h7 := hb.1
  have htb := hb.2.2.1
  obtain ⟨R, hR⟩ : ∃ R, R = rd0 n tb tp := ⟨_, rfl⟩
  rw [← hR]
  unfold MD_reads
  rw [nm_e', nm_e']
  obtain ⟨M2, hM2⟩ : ∃ M2, M2 = st2 (st2 M 33 13 0) 33 14 0 := ⟨_, rfl⟩
  rw [← hM2]
  have g2 : FM M M2 := by
    rw [hM2]
    refine ⟨fun k hk => ?_, fun s h1 h2 => ?_⟩
    · rw [st2_n (fun e => hk (by rw [e]; decide)), st2_n (fun e => hk (by rw [e]; decide))]
    · rw [st2_s, upd_n h2, st2_s, upd_n h1]
  have p2 : M2 33 13 = nI 0 := by rw [hM2, st2_s, upd_n (by decide), st2_s, upd_s]; rfl
  have m2 : M2 33 14 = nI 0 := by rw [hM2, st2_s, upd_s]; rfl
  -- one more tie
  have hone : ∀ (t : Mem) (i m : Nat) (g : Nat → Nat → Nat), FM M t → t 33 13 = nI i → t 33 14 = nI m → MROWS t m g → m < 13 → i ≤ 100 → rda n tb tp (13 - m) i m g = R → wp (MD_oneTie t) (fun r => FM M r.2 ∧ ((r.1 = 0 ∧ R.1 = false ∧ r.2 33 13 = nI R.2.1) ∨ (r.1 = 1 ∧ ∃ j g', i + 4 ≤ j ∧ j ≤ tb ∧ r.2 33 13 = nI j ∧ r.2 33 14 = nI (m + 1) ∧ MROWS r.2 (m + 1) g' ∧ R = if hN tb tp j = 59 then rda n tb tp (13 - (m + 1)) (j + 1) (m + 1) g' else (j == tb, j, m + 1, g')))) := fun t i m g ht hp hm hrow hlt hi hr => by
    have mt : MT t t i m := ⟨FM.rf, hp, hm, fun _ _ _ _ _ => rfl⟩
    refine wp_mono (MD_oneTie_wp (hb.fm ht) (by omega) mt hi) (fun r h => ?_)
    obtain ⟨q1, q2, q3⟩ := h
    refine ⟨ht.tr q1, ?_⟩
    rw [show 13 - m = (13 - (m + 1)) + 1 by omega] at hr
    rcases hT : tieR n tb tp i with ⟨x, j⟩
    rw [hT] at q2 q3
    dsimp only at q2 q3
    rcases q3 with ⟨t5, rfl, a1, a2, a3, a4⟩ | ⟨rfl, a1⟩
    · obtain ⟨l1, l2, -⟩ := tieR_ok h7 hT
      rw [rda_t hT] at hr
      refine Or.inr ⟨a1, j, upN g m t5, l1, l2, q2, a2, fun u hu => ?_, hr.symm⟩
      unfold upN
      by_cases e : u = m
      · rw [if_pos e, e]; exact a4
      · rw [if_neg e]; exact (hrow u (by omega)).rc a3 (by omega)
    · rw [rda_f hT] at hr
      rw [← hr]
      exact Or.inl ⟨a1, rfl, q2⟩
  refine wp_bnd2 (hone M2 0 0 _ g2 p2 m2 (fun u hu => by omega) (by omega) (by omega) (by rw [hR]; rfl)) (fun r1 M3 h3 => ?_)
  obtain ⟨f3, h3⟩ := h3
  dsimp only at f3 h3
  rcases h3 with ⟨rfl, a1, a2⟩ | ⟨rfl, j, g, l1, l2, p3, m3, w3, hr3⟩
  · rw [if_pos rfl]
    exact wp_some ⟨f3, by rw [a1]; rfl, a2, fun z => by rw [a1] at z; cases z⟩
  · rw [if_neg one_ne0]
    refine LOOP_inv (fun d (t : Mem) => FM M t ∧ ∃ j m g, d = 13 - m ∧ 1 ≤ m ∧ m < 13 ∧ 5 * m ≤ j + 1 ∧ j ≤ tb ∧ t 33 13 = nI j ∧ t 33 14 = nI m ∧ MROWS t m g ∧ R = if hN tb tp j = 59 then rda n tb tp (13 - m) (j + 1) m g else (j == tb, j, m, g)) (fun o => wp o _) ?_ FU 12 M3 (by unfold FU; omega) ⟨f3, j, 1, g, rfl, by omega, by omega, by omega, l2, p3, m3, w3, hr3⟩
    rintro d t ag ⟨hf, j, m, g, rfl, k1, k2, k3, k4, k5, k6, k7, k8⟩ ih
    show wp (MD_reads_L19 _ ag t) _
    unfold MD_reads_L19
    have mt : MT t t j m := ⟨FM.rf, k5, k6, fun _ _ _ _ _ => rfl⟩
    refine wp_bnd2 (MD_takes_wp (c := 59) (hb.fm hf) mt (by omega) (by omega)) (fun r2 M5 h5 => ?_)
    obtain ⟨f5, h5⟩ := h5
    dsimp only at f5 h5
    rcases h5 with ⟨c, rfl, t5⟩ | ⟨c, rfl, t5⟩
    · rw [if_neg one_ne0]
      rw [if_pos c] at k8
      have hjt := hN_lt (tb := tb) (tp := tp) (i := j) (c := 59) (by omega) (by omega)
      have w5 : MROWS M5 m g := fun u hu => (k7 u hu).eq (fun k h1 h2 => f5 k (by simp; omega))
      refine wp_bnd2 (hone M5 (j + 1) m g (hf.tr t5.1) t5.2.1 t5.2.2.1 w5 (by omega) (by omega) k8.symm) (fun r3 M6 h6 => ?_)
      obtain ⟨f6, h6⟩ := h6
      dsimp only at f6 h6
      rcases h6 with ⟨rfl, a1, a2⟩ | ⟨rfl, j', g', l1', l2', p6, m6, w6, hr6⟩
      · rw [if_pos rfl]
        exact wp_some ⟨f6, by rw [a1]; rfl, a2, fun z => by rw [a1] at z; cases z⟩
      · rw [if_neg one_ne0]
        exact ih (13 - (m + 1)) M6 (by omega) ⟨f6, j', m + 1, g', rfl, by omega, by omega, by omega, l2', p6, m6, w6, hr6⟩
    · rw [if_pos rfl]
      rw [if_neg c] at k8
      have fm5 := hf.tr t5.1
      have e12 : M5 33 12 = nI tb := (hb.fm fm5).2.2.2.2.1
      rw [t5.2.1, e12, k8]
      dsimp only
      by_cases e : j = tb
      · rw [if_pos (by rw [e])]
        refine wp_some ⟨fm5, by rw [e, beq_self_eq_true]; rfl, t5.2.1, fun _ => ⟨by omega, t5.2.2.1, fun u hu => (k7 u hu).eq (fun k h1 h2 => f5 k (by simp; omega))⟩⟩
      · rw [if_neg (by rw [nI_eq (by omega) (by omega)]; exact e)]
        exact wp_some ⟨fm5, by rw [beq_eq_false_iff_ne.mpr e]; rfl, t5.2.1, fun z => by rw [beq_eq_false_iff_ne.mpr e] at z; cases z⟩
theorem mcol {β : Type} {t : Mem} {k k' u q : Nat} (hq : t 33 9 = nI q) (hu : u < 20) (hq6 : q < 60) (f : Mem → Option β) : (if inb (nI u) 20 then if inb (t 33 9) 60 then nm (wr t k (t 33 9) (rd t k' (nI u))) f else none else none) = f (st2 t k q (t k' u)) := by
  rw [hq, if_pos ((inb_nI (by omega)).mpr hu), if_pos ((inb_nI (by omega)).mpr hq6), nm_e', wr_nI (by omega), rd_nI (by omega)]
def M6 (M : Mem) (nt : Nat) (tf : Nat → Nat → Nat) : Prop := ∀ i, i < nt → M 36 i = nI (tf i 0) ∧ M 37 i = nI (tf i 1) ∧ M 38 i = nI (tf i 2) ∧ M 39 i = nI (tf i 3) ∧ M 40 i = nI (tf i 4) ∧ M 41 i = nI (tf i 5)
set_option maxHeartbeats 1000000 in
theorem MD_keep_wp {nt m : Nat} {tf g : Nat → Nat → Nat} {M : Mem} {Q : Int32 × Mem → Prop} {kx : Mem → Option (Int32 × Mem)} (h : nt + m ≤ 60) (hm : m < 20) (h9 : M 33 9 = nI nt) (h14 : M 33 14 = nI m) (h6 : M6 M nt tf) (hr : MROWS M m g)
    (hk : ∀ t, (∀ k, k ∉ [33, 36, 37, 38, 39, 40, 41] → t k = M k) → (∀ s, s ≠ 9 → t 33 s = M 33 s) → t 33 9 = nI (nt + m) → M6 t (nt + m) (fun i => if i < nt then tf i else g (i - nt)) → wp (kx t) Q) : wp (LOOP (fun aq sq => MD_ties_L45 kx aq sq.1 sq.2) FU (0, M)) Q := by
  refine LOOP_up (fun u (t : Mem) => (nI u, t)) m (by omega) (fun u t => (∀ k, k ∉ [33, 36, 37, 38, 39, 40, 41] → t k = M k) ∧ (∀ s, s ≠ 9 → t 33 s = M 33 s) ∧ t 33 9 = nI (nt + u) ∧ M6 t (nt + u) (fun i => if i < nt then tf i else g (i - nt))) (fun o => wp o _) ?_ ?_ 0 M (by omega) ⟨fun _ _ => rfl, fun _ _ => rfl, h9, fun i hi => by dsimp only; rw [if_pos (by omega)]; exact h6 i (by omega)⟩
  · rintro u t ag hu ⟨f1, f2, a1, a2⟩ ih
    have e14 : t 33 14 = nI m := by rw [f2 14 (by decide)]; exact h14
    have hrow : MROW t u (g u) := (hr u hu).eq (fun k k1 k2 => f1 k (by simp; omega))
    show wp (MD_ties_L45 kx ag (nI u) t) _
    unfold MD_ties_L45
    rw [e14, if_neg (by rw [nI_leI (by omega) (by omega)]; omega)]
    have hu20 : u < 20 := by omega
    have hq60 : nt + u < 60 := by omega
    rw [mcol a1 hu20 hq60]
    have b1 : (st2 t 36 (nt + u) (t 43 u)) 33 9 = nI (nt + u) := by rw [st2_n (by decide)]; exact a1
    rw [mcol b1 hu20 hq60]
    have b2 : (st2 (st2 t 36 (nt + u) (t 43 u)) 37 (nt + u) (st2 t 36 (nt + u) (t 43 u) 44 u)) 33 9 = nI (nt + u) := by rw [st2_n (by decide)]; exact b1
    rw [mcol b2 hu20 hq60]
    generalize hM2 : st2 (st2 t 36 (nt + u) (t 43 u)) 37 (nt + u) (st2 t 36 (nt + u) (t 43 u) 44 u) = M2 at b2 ⊢
    have b3 : (st2 M2 38 (nt + u) (M2 45 u)) 33 9 = nI (nt + u) := by rw [st2_n (by decide)]; exact b2
    rw [mcol b3 hu20 hq60]
    generalize hM3 : st2 M2 38 (nt + u) (M2 45 u) = M3 at b3 ⊢
    have b4 : (st2 M3 39 (nt + u) (M3 46 u)) 33 9 = nI (nt + u) := by rw [st2_n (by decide)]; exact b3
    rw [mcol b4 hu20 hq60]
    generalize hM4 : st2 M3 39 (nt + u) (M3 46 u) = M4 at b4 ⊢
    have b5 : (st2 M4 40 (nt + u) (M4 47 u)) 33 9 = nI (nt + u) := by rw [st2_n (by decide)]; exact b4
    rw [mcol b5 hu20 hq60]
    generalize hM5 : st2 M4 40 (nt + u) (M4 47 u) = M5 at b5 ⊢
    have b6 : (st2 M5 41 (nt + u) (M5 48 u)) 33 9 = nI (nt + u) := by rw [st2_n (by decide)]; exact b5
    rw [nm_e', b6, nI_1, nI_1]
    obtain ⟨r0, r1, r2, r3, r4, r5⟩ := hrow
    -- all cells of the new memory
    have hcell : ∀ k j, k ≠ 33 → (st2 (st2 M5 41 (nt + u) (M5 48 u)) 33 9 (nI (nt + u + 1))) k j = if k = 36 ∧ j = nt + u then nI (g u 0) else if k = 37 ∧ j = nt + u then nI (g u 1) else if k = 38 ∧ j = nt + u then nI (g u 2) else if k = 39 ∧ j = nt + u then nI (g u 3) else if k = 40 ∧ j = nt + u then nI (g u 4) else if k = 41 ∧ j = nt + u then nI (g u 5) else t k j := fun k j hk => by
      have c2 : ∀ k j, k ≠ 33 → M2 k j = if k = 36 ∧ j = nt + u then nI (g u 0) else if k = 37 ∧ j = nt + u then nI (g u 1) else t k j := fun k j hk => by
        rw [← hM2]
        by_cases e7 : k = 37
        · subst e7
          rw [st2_s, if_neg (by omega)]
          by_cases ej : j = nt + u
          · subst ej; rw [upd_s, if_pos ⟨rfl, rfl⟩, st2_n (by decide)]; exact r1
          · rw [upd_n ej, if_neg (fun z => ej z.2), st2_n (by decide)]
        · rw [st2_n e7]
          by_cases e6 : k = 36
          · subst e6
            rw [st2_s]
            by_cases ej : j = nt + u
            · subst ej; rw [upd_s, if_pos ⟨rfl, rfl⟩]; exact r0
            · rw [upd_n ej, if_neg (fun z => ej z.2), if_neg (fun z => e7 z.1)]
          · rw [st2_n e6, if_neg (fun z => e6 z.1), if_neg (fun z => e7 z.1)]
      have step : ∀ (A B : Mem) (c src : Nat) (v : Int32), st2 A c (nt + u) (A src u) = B → A src u = v → ∀ k j, B k j = if k = c ∧ j = nt + u then v else A k j := fun A B c src v e1 e2 k j => by
        rw [← e1, e2]
        by_cases ek : k = c
        · subst ek
          rw [st2_s]
          by_cases ej : j = nt + u
          · subst ej; rw [upd_s, if_pos ⟨rfl, rfl⟩]
          · rw [upd_n ej, if_neg (fun z => ej z.2)]
        · rw [st2_n ek, if_neg (fun z => ek z.1)]
      have v2 : ∀ k, 43 ≤ k → ∀ j, M2 k j = t k j := fun k hk j => by rw [c2 k j (by omega), if_neg (by omega), if_neg (by omega)]
      have s3 := step M2 M3 38 45 _ hM3 ((v2 45 (by omega) u).trans r2)
      have v3 : ∀ k, 43 ≤ k → ∀ j, M3 k j = t k j := fun k hk j => by rw [s3, if_neg (by omega)]; exact v2 k hk j
      have s4 := step M3 M4 39 46 _ hM4 ((v3 46 (by omega) u).trans r3)
      have v4 : ∀ k, 43 ≤ k → ∀ j, M4 k j = t k j := fun k hk j => by rw [s4, if_neg (by omega)]; exact v3 k hk j
      have s5 := step M4 M5 40 47 _ hM5 ((v4 47 (by omega) u).trans r4)
      have v5 : ∀ k, 43 ≤ k → ∀ j, M5 k j = t k j := fun k hk j => by rw [s5, if_neg (by omega)]; exact v4 k hk j
      have s6 := step M5 _ 41 48 _ rfl ((v5 48 (by omega) u).trans r5)
      rw [st2_n hk, s6, s5, s4, s3, c2 k j hk]
      by_cases ej : j = nt + u
      · by_cases e1 : k = 41
        · simp [e1, ej]
        by_cases e2 : k = 40
        · simp [e2, ej]
        by_cases e3 : k = 39
        · simp [e3, ej]
        by_cases e4 : k = 38
        · simp [e4, ej]
        simp [e1, e2, e3, e4]
      · simp [ej]
    have hs33 : ∀ s, s ≠ 9 → (st2 (st2 M5 41 (nt + u) (M5 48 u)) 33 9 (nI (nt + u + 1))) 33 s = t 33 s := fun s hs => by
      rw [st2_s, upd_n hs, st2_n (by decide), ← hM5, st2_n (by decide), ← hM4, st2_n (by decide), ← hM3, st2_n (by decide), ← hM2, st2_n (by decide), st2_n (by decide)]
    refine ih _ ⟨fun k hk => ?_, fun s hs => ?_, by rw [st2_s, upd_s]; rfl, fun i hi => ?_⟩
    · funext j
      have k33 : k ≠ 33 := fun e => hk (by rw [e]; decide)
      have k36 : k ≠ 36 := fun e => hk (by rw [e]; decide)
      have k37 : k ≠ 37 := fun e => hk (by rw [e]; decide)
      have k38 : k ≠ 38 := fun e => hk (by rw [e]; decide)
      have k39 : k ≠ 39 := fun e => hk (by rw [e]; decide)
      have k40 : k ≠ 40 := fun e => hk (by rw [e]; decide)
      have k41 : k ≠ 41 := fun e => hk (by rw [e]; decide)
      rw [hcell k j k33, if_neg (fun z => k36 z.1), if_neg (fun z => k37 z.1), if_neg (fun z => k38 z.1), if_neg (fun z => k39 z.1), if_neg (fun z => k40 z.1), if_neg (fun z => k41 z.1), f1 k hk]
    · rw [hs33 s hs]; exact f2 s hs
    · rw [hcell 36 i (by decide), hcell 37 i (by decide), hcell 38 i (by decide), hcell 39 i (by decide), hcell 40 i (by decide), hcell 41 i (by decide)]
      by_cases e : i = nt + u
      · subst e
        simp [show ¬ nt + u < nt by omega]
      · have := a2 i (by omega)
        simpa [e] using this
  · rintro t ag ⟨f1, f2, a1, a2⟩
    have e14 : t 33 14 = nI m := by rw [f2 14 (by decide)]; exact h14
    show wp (MD_ties_L45 kx ag (nI m) t) _
    unfold MD_ties_L45
    rw [e14, if_pos (by rw [nI_leI (by omega) (by omega)]; omega)]
    exact hk t f1 f2 a1 a2
theorem MD_ties_wp {σ : Sg} {M : Mem} (hw : WF σ) (h : RM M σ) : wp (MD_ties M) (EM (R_ties σ) M) := by
  obtain ⟨n, y, nt, tb, nc, ma, tf, tp, nf, rf⟩ := σ
  obtain ⟨w1, w2, w3, w4, w5, w6, w7, w8, w9, w10⟩ := hw
  obtain ⟨a1, a2, a3, a4, a5, a6, a7, a8, a9, a10⟩ := h
  unfold MD_ties R_ties
  refine wp_bnd2 (MD_reads_wp (n := n) (tb := tb) (tp := tp) ⟨w2, w1, w5, w9, a4, a1, a8⟩) (fun r M1 h1 => ?_)
  obtain ⟨⟨f1, f1'⟩, e1, p1, q1⟩ := h1
  dsimp only at f1 f1' e1 p1 q1 ⊢
  rw [nm_e']
  obtain ⟨R, hR⟩ : ∃ R, R = rd0 n tb tp := ⟨_, rfl⟩
  rw [← hR] at e1 p1 q1 ⊢
  have e6 : st2 M1 33 12 0 33 13 = nI R.2.1 := by rw [st2_s, upd_n (by decide)]; exact p1
  have s33 : ∀ s, s ≠ 12 → s ≠ 13 → s ≠ 14 → st2 M1 33 12 0 33 s = M 33 s := fun s h1 h2 h3 => by rw [st2_s, upd_n h1]; exact f1' s h2 h3
  have o33 : ∀ k, k ∉ [33, 43, 44, 45, 46, 47, 48] → st2 M1 33 12 0 k = M k := fun k hk => by rw [st2_n (fun e => hk (by rw [e]; decide))]; exact f1 k hk
  have hrc : RM (st2 M1 33 12 0) (n, y, nt, 0, nc, ma, tf, tp, nf, rf) := by
    refine ⟨?_, ?_, ?_, ?_, ?_, ?_, ?_, ?_, ?_, ?_⟩
    · rw [s33 8 (by decide) (by decide) (by decide)]; exact a1
    · rw [s33 10 (by decide) (by decide) (by decide)]; exact a2
    · rw [s33 9 (by decide) (by decide) (by decide)]; exact a3
    · rw [st2_s, upd_s]; rfl
    · rw [s33 33 (by decide) (by decide) (by decide)]; exact a5
    · exact a6.fr (o33 35 (by decide))
    · rw [o33 36 (by decide), o33 37 (by decide), o33 38 (by decide), o33 39 (by decide), o33 40 (by decide), o33 41 (by decide)]; exact a7
    · intro i hi; omega
    · rw [o33 58 (by decide), o33 59 (by decide), o33 60 (by decide)]; exact a9
    · rw [o33 34 (by decide)]; exact a10
  have hlo : ∀ k, k < 33 → st2 M1 33 12 0 k = M k := fun k hk => o33 k (by simp; omega)
  rw [e1, e6]
  by_cases c : R.1 = true
  · obtain ⟨q2, q3, q4⟩ := q1 c
    have e14 : st2 M1 33 12 0 33 14 = nI R.2.2.1 := by rw [st2_s, upd_n (by decide)]; exact q3
    have w9' : MROWS (st2 M1 33 12 0) R.2.2.1 R.2.2.2 := fun u hu => (q4 u hu).eq (fun k h1 h2 => st2_n (by omega))
    rw [if_neg (by rw [cI_0]; exact not_not_intro c), if_pos c, hrc.2.2.1, e14, nI_add, show (60 : Int32) = nI 60 from rfl]
    by_cases c2 : nt + R.2.2.1 ≤ 60
    · rw [if_pos ((nI_leI (by omega) (by omega)).mpr c2), if_pos c2]
      refine MD_keep_wp c2 q2 hrc.2.2.1 e14 hrc.2.2.2.2.2.2.1 w9' (fun t g1 g2 b1 b2 => ?_)
      rw [b1]
      obtain ⟨a1, a2, a3, a4, a5, a6, a7, a8, a9, a10⟩ := hrc
      refine wp_some (em_ok ⟨?_, ?_, b1, ?_, ?_, ?_, b2, ?_, ?_, ?_⟩ (fun k hk => ?_))
      · rw [g2 8 (by decide)]; exact a1
      · rw [g2 10 (by decide)]; exact a2
      · rw [g2 12 (by decide)]; exact a4
      · rw [g2 33 (by decide)]; exact a5
      · exact a6.fr (g1 35 (by decide))
      · exact a8.fr (g1 42 (by decide))
      · rw [g1 58 (by decide), g1 59 (by decide), g1 60 (by decide)]; exact a9
      · rw [g1 34 (by decide)]; exact a10
      · rw [g1 k (by simp; omega)]; exact hlo k hk
    · rw [if_neg (fun z => c2 ((nI_leI (by omega) (by omega)).mp z)), if_neg c2]
      exact MD_no6 hrc hlo
  · rw [if_pos (by rw [cI_0]; exact c), if_neg c]
    exact wp_some (em_ok hrc hlo)
