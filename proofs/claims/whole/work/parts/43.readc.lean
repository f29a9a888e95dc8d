/-! by hand: ties: one tie read, all ties read: the class -/
def DRW (M0 M : Mem) (m : Nat) (f : Nat → Int32) : Prop := (∀ q, q < m * 6 → M 9 q = M0 9 q) ∧ ∀ s, s < 6 → M 9 (m * 6 + s) = f s
theorem DRW.st {M0 M M' : Mem} {m s : Nat} {f : Nat → Int32} {v : Int32} (h : DRW M0 M m f) (e : M' 9 = upd (M 9) (m * 6 + s) v) : DRW M0 M' m (upd f s v) := by
  refine ⟨fun q hq => ?_, fun u hu => ?_⟩
  · rw [e, upd_n (by omega)]; exact h.1 q hq
  · rw [e]
    by_cases c : u = s
    · subst c; rw [upd_s, upd_s]
    · rw [upd_n (by omega), upd_n c]; exact h.2 u hu
theorem DRW.eq {M0 M M' : Mem} {m : Nat} {f : Nat → Int32} (h : DRW M0 M m f) (e : M' 9 = M 9) : DRW M0 M' m f := ⟨fun q hq => by rw [e]; exact h.1 q hq, fun u hu => by rw [e]; exact h.2 u hu⟩
theorem year_le {tb lo i v j : Nat} {tp : Nat → Nat} (h : year tb tp lo i = some (v, j)) : lo ≤ v ∧ v ≤ 100 ∧ i < j ∧ j ≤ i + 3 := by
  unfold year at h
  have hp := yrd_pos (tb := tb) (tp := tp) (f := 3) (v := 0) (i := i)
  split at h
  · cases h
  · rename_i hc
    have := Option.some.inj h
    rw [this] at hc hp
    dsimp only at hc hp
    omega
theorem Ta_readYears_wp {n tb j m a b k s : Nat} {tp : Nat → Nat} {M0 M : Mem} {f : Nat → Int32} (ho : CTok n tb tp m) (h : CT M n tb tp j m) (hj : j ≤ 200) (hd : DRW M0 M m f) (f0 : f 0 = nI a) (f1 : f 1 = nI b) (f2 : f 2 = nI k) (f3 : f 3 = nI s) (f4 : f 4 = nI 0) (f5 : f 5 = nI 100) : wp (Ta_readYears M) (fun r => Fr [6, 9] M r.2 ∧ CT r.2 n tb tp (tieY tb tp a b k s j).2 m ∧ (∀ q, q < m * 6 → r.2 9 q = M0 9 q) ∧ ((∃ g, (tieY tb tp a b k s j).1 = some g ∧ r.1 = 1 ∧ ∀ s, s < 6 → r.2 9 (m * 6 + s) = nI (g s)) ∨ ((tieY tb tp a b k s j).1 = none ∧ r.1 = 0))) := by
  have hm := ho.2.2.2
  have six : ∀ {g : Nat → Int32} {g' : Nat → Nat}, g 0 = nI (g' 0) → g 1 = nI (g' 1) → g 2 = nI (g' 2) → g 3 = nI (g' 3) → g 4 = nI (g' 4) → g 5 = nI (g' 5) → ∀ s, s < 6 → g s = nI (g' s) := by
    intro g g' e0 e1 e2 e3 e4 e5 s hs
    match s, hs with
    | 0, _ => exact e0
    | 1, _ => exact e1
    | 2, _ => exact e2
    | 3, _ => exact e3
    | 4, _ => exact e4
    | 5, _ => exact e5
    | q + 6, hq => omega
  unfold Ta_readYears
  refine wp_bnd2 (Ta_skip_wp (c := 64) ho h (by omega) (by omega)) (fun r1 M1 h1 => ?_)
  obtain ⟨g1, h1⟩ := h1
  dsimp only at g1 h1
  have d1 : DRW M0 M1 m f := hd.eq (g1 9 (by decide))
  rcases h1 with ⟨c1, rfl, t1⟩ | ⟨c1, rfl, t1⟩
  · rw [if_neg one_ne0]
    refine wp_bnd2 (Ta_readYear_wp (s := 4) (lo := 0) ho t1 (by omega) (by omega) rfl) (fun r2 M2 h2 => ?_)
    obtain ⟨g2, h2⟩ := h2
    dsimp only at g2 h2
    rcases h2 with ⟨v, j2, y1, rfl, t2, e2⟩ | ⟨y1, rfl, t2, e2⟩
    · rw [if_neg one_ne0]
      have yl := year_le y1
      have d2 := d1.st e2
      refine wp_bnd2 (Ta_skip_wp (c := 45) ho t2 (by omega) (by omega)) (fun r3 M3 h3 => ?_)
      obtain ⟨g3, h3⟩ := h3
      dsimp only at g3 h3
      have d3 := d2.eq (g3 9 (by decide))
      have g123 : Fr [6, 9] M M3 := ((g1.mo (by simp)).tr g2).tr (g3.mo (by simp))
      rcases h3 with ⟨c3, rfl, t3⟩ | ⟨c3, rfl, t3⟩
      · rw [if_neg one_ne0]
        have e4 : M3 9 (m * 6 + 4) = nI v := by rw [d3.2 4 (by omega), upd_s]
        have hdr : Ta_drafted 4 M3 = some (nI v) := by
          unfold Ta_drafted
          rw [t3.2.2.2.2, show (4 : Int32) = nI 4 from rfl, Td_field_nI isT_8 (by omega) (by omega), bind_s, show 8 + 1 = 9 from rfl, e4]
        rw [hdr, bind_s]
        refine wp_bnd2 (Ta_readYear_wp (s := 5) (lo := v + 1) ho t3 (by omega) (by omega) (by rw [nI_toInt (by omega)]; omega)) (fun r5 M5 h5 => ?_)
        obtain ⟨g5, h5⟩ := h5
        dsimp only at g5 h5
        rcases h5 with ⟨w, j3, y3, rfl, t5, e5⟩ | ⟨y3, rfl, t5, e5⟩
        · rw [if_neg one_ne0]
          have d5 := d3.st e5
          have eR : tieY tb tp a b k s j = (some (fld a b k s v w), j3) := by
            unfold tieY; rw [if_pos c1, y1]; dsimp only; rw [if_pos c3, y3]
          rw [eR]
          refine wp_some ⟨g123.tr g5, t5, d5.1, Or.inl ⟨_, rfl, rfl, fun q hq => ?_⟩⟩
          rw [show (1, M5).2 9 (m * 6 + q) = _ from d5.2 q hq]
          refine six (g := upd (upd f 4 (nI v)) 5 (nI w)) (g' := fld a b k s v w) ?_ ?_ ?_ ?_ ?_ ?_ q hq
          · exact f0
          · exact f1
          · exact f2
          · exact f3
          · rfl
          · rfl
        · rw [if_pos rfl]
          have eR : tieY tb tp a b k s j = (none, j2 + 1) := by
            unfold tieY; rw [if_pos c1, y1]; dsimp only; rw [if_pos c3, y3]
          rw [eR]
          exact wp_some ⟨g123.tr g5, t5, (d3.eq e5).1, Or.inr ⟨rfl, rfl⟩⟩
      · rw [if_pos rfl]
        have eR : tieY tb tp a b k s j = (none, j2) := by
          unfold tieY; rw [if_pos c1, y1]; dsimp only; rw [if_neg c3]
        rw [eR]
        exact wp_some ⟨g123, t3, d3.1, Or.inr ⟨rfl, rfl⟩⟩
    · rw [if_pos rfl]
      have eR : tieY tb tp a b k s j = (none, j + 1) := by
        unfold tieY; rw [if_pos c1, y1]
      rw [eR]
      exact wp_some ⟨(g1.mo (by simp)).tr g2, t2, (d1.eq e2).1, Or.inr ⟨rfl, rfl⟩⟩
  · rw [if_pos rfl]
    have eR : tieY tb tp a b k s j = (some (fld a b k s 0 100), j) := by
      unfold tieY; rw [if_neg c1]
    rw [eR]
    refine wp_some ⟨g1.mo (by simp), t1, d1.1, Or.inl ⟨_, rfl, rfl, fun q hq => ?_⟩⟩
    rw [show (1, M1).2 9 (m * 6 + q) = _ from d1.2 q hq]
    exact six (g := f) (g' := fld a b k s 0 100) f0 f1 f2 f3 f4 f5 q hq
theorem bz01 : bz 1 = 1 ∧ bz 0 = 0 := by decide
set_option maxHeartbeats 1000000 in
theorem Ta_readTie_wp {n tb i m : Nat} {tp : Nat → Nat} {M : Mem} (ho : CTok n tb tp m) (h1n : 1 ≤ n) (h : CT M n tb tp i m) (hi : i ≤ 100) : wp (Ta_readTie M) (fun r => Fr [6, 9] M r.2 ∧ CT r.2 n tb tp (tieR n tb tp i).2 m ∧ (∀ q, q < m * 6 → r.2 9 q = M 9 q) ∧ ((∃ g, (tieR n tb tp i).1 = some g ∧ r.1 = 1 ∧ ∀ s, s < 6 → r.2 9 (m * 6 + s) = nI (g s)) ∨ ((tieR n tb tp i).1 = none ∧ r.1 = 0))) := by
  have hm := ho.2.2.2
  have h7 := ho.1
  have e3 := Td_draft8 (s := 3) (v := 1) ho h (by omega)
  have h3 : CT (st2 M 9 (m * 6 + 3) 1) n tb tp i m := h.put
  have e4 := Td_draft8 (s := 4) (v := 0) ho h3 (by omega)
  have h4 : CT (st2 (st2 M 9 (m * 6 + 3) 1) 9 (m * 6 + 4) 0) n tb tp i m := h3.put
  have e5 := Td_draft8 (s := 5) (v := 100) ho h4 (by omega)
  unfold Ta_readTie
  rw [show Td_draft 8 3 1 M = _ from e3, bind_s, show Td_draft 8 4 0 _ = _ from e4, bind_s, show Td_draft 8 5 100 _ = _ from e5, bind_s]
  obtain ⟨M3, hM3⟩ : ∃ M3, M3 = st2 (st2 (st2 M 9 (m * 6 + 3) 1) 9 (m * 6 + 4) 0) 9 (m * 6 + 5) 100 := ⟨_, rfl⟩
  rw [← hM3]
  have t3 : CT M3 n tb tp i m := by rw [hM3]; exact h4.put
  have g3 : Fr [6, 9] M M3 := by rw [hM3]; exact ((Fr.st (by simp)).tr (Fr.st (by simp))).tr (Fr.st (by simp))
  obtain ⟨f, hf⟩ : ∃ f, f = upd (upd (upd (fun s => M 9 (m * 6 + s)) 3 1) 4 0) 5 100 := ⟨_, rfl⟩
  have d3 : DRW M M3 m f := by
    rw [hM3, hf]
    have d0 : DRW M M m (fun s => M 9 (m * 6 + s)) := ⟨fun q _ => rfl, fun s _ => rfl⟩
    exact ((d0.st st2_s).st st2_s).st st2_s
  clear hM3 e3 e4 e5 h3 h4
  have hfail : ∀ t j, tieR n tb tp i = (none, j) → Fr [6, 9] M t → CT t n tb tp j m → (∀ q, q < m * 6 → t 9 q = M 9 q) → wp (β := Int32 × Mem) (some (0, t)) (fun r => Fr [6, 9] M r.2 ∧ CT r.2 n tb tp (tieR n tb tp i).2 m ∧ (∀ q, q < m * 6 → r.2 9 q = M 9 q) ∧ ((∃ g, (tieR n tb tp i).1 = some g ∧ r.1 = 1 ∧ ∀ s, s < 6 → r.2 9 (m * 6 + s) = nI (g s)) ∨ ((tieR n tb tp i).1 = none ∧ r.1 = 0))) := fun t j e ft ct rt => by
    rw [e]; exact wp_some ⟨ft, ct, rt, Or.inr ⟨rfl, rfl⟩⟩
  have hP : ∀ {t : Mem} {j s : Nat}, CT t n tb tp j m → j ≤ 500 → s < 6 → wp (Ta_readPerson (nI s) t) (fun r => Fr [6, 9] t r.2 ∧ (((97 ≤ hN tb tp j ∧ hN tb tp j < 97 + n) ∧ r.1 = 1 ∧ CT r.2 n tb tp (j + 1) m ∧ r.2 9 = upd (t 9) (m * 6 + s) (nI (hN tb tp j - 97))) ∨ (¬ (97 ≤ hN tb tp j ∧ hN tb tp j < 97 + n) ∧ r.1 = 0 ∧ r.2 = t))) := fun {t j s} ct hj hs => by
    unfold Ta_readPerson
    rw [ct.2.2.1, show (97 : Int32) + nI n - 1 = nI (96 + n) by rw [show (97 : Int32) = nI 97 from rfl, nI_add, show 97 + n = 96 + n + 1 by omega, nI_pred]]
    refine wp_bnd2 (Ta_readInto_wp (lo := 97) (hi := 96 + n) (base := 97) ho ct (by omega) hs (by omega) (by omega) (by omega) (by omega)) (fun r M1 h1 => ?_)
    obtain ⟨g1, h1⟩ := h1
    dsimp only at g1 h1
    rcases h1 with ⟨c, rfl, a1, a2⟩ | ⟨c, rfl, rfl⟩
    · rw [bz01.1]; exact wp_some ⟨g1, Or.inl ⟨by omega, rfl, a1, a2⟩⟩
    · rw [bz01.2]; exact wp_some ⟨g1, Or.inr ⟨by omega, rfl, rfl⟩⟩
  refine wp_bnd2 (hP (s := 0) t3 (by omega) (by omega)) (fun r1 M4 h4 => ?_)
  obtain ⟨g4, h4⟩ := h4
  dsimp only at g4 h4
  rcases h4 with ⟨c0, rfl, t4, e4⟩ | ⟨c0, rfl, rfl⟩
  rotate_left
  · rw [if_pos rfl]
    exact hfail _ i (by unfold tieR; rw [if_neg c0]) g3 t3 d3.1
  rw [if_neg one_ne0]
  have d4 := d3.st e4
  have g34 := g3.tr g4
  refine wp_bnd2 (Ta_skip_wp (c := 62) ho t4 (by omega) (by omega)) (fun r2 M5 h5 => ?_)
  obtain ⟨g5, h5⟩ := h5
  dsimp only at g5 h5
  have d5 := d4.eq (g5 9 (by decide))
  have g35 : Fr [6, 9] M M5 := g34.tr (g5.mo (by simp))
  rcases h5 with ⟨c1, rfl, t5⟩ | ⟨c1, rfl, t5⟩
  rotate_left
  · rw [if_pos rfl]
    exact hfail _ (i + 1) (by unfold tieR; rw [if_pos c0, if_neg c1]) g35 t5 d5.1
  rw [if_neg one_ne0, Ta_here_eq ho t5 (by omega), bind_s]
  have ed : M5 9 (m * 6 + 0) = nI (hN tb tp i - 97) := by rw [d5.2 0 (by omega), upd_s]
  have hdr : Ta_drafted 0 M5 = some (nI (hN tb tp i - 97)) := by
    unfold Ta_drafted
    rw [t5.2.2.2.2, show (0 : Int32) = nI 0 from rfl, Td_field_nI isT_8 (by omega) (by omega), bind_s, show 8 + 1 = 9 from rfl, ed]
  rw [hdr, bind_s, show (97 : Int32) + nI (hN tb tp i - 97) = nI (hN tb tp i) by rw [show (97 : Int32) = nI 97 from rfl, nI_add]; congr 1; omega]
  by_cases c2 : hN tb tp (i + 2) = hN tb tp i
  · rw [if_pos ((hI_eq ho.2.2.1 (by omega)).mpr c2)]
    exact hfail _ (i + 2) (by unfold tieR; rw [if_pos c0, if_pos c1, if_pos c2]) g35 t5 d5.1
  rw [if_neg (fun z => c2 ((hI_eq ho.2.2.1 (by omega)).mp z))]
  refine wp_bnd2 (hP (s := 1) t5 (by omega) (by omega)) (fun r5 M6 h6 => ?_)
  obtain ⟨g6, h6⟩ := h6
  dsimp only at g6 h6
  rcases h6 with ⟨c3, rfl, t6, e6⟩ | ⟨c3, rfl, rfl⟩
  rotate_left
  · rw [if_pos rfl]
    exact hfail _ (i + 2) (by unfold tieR; rw [if_pos c0, if_pos c1, if_neg c2, if_neg c3]) g35 t5 d5.1
  rw [if_neg one_ne0]
  have d6 := d5.st e6
  have g36 := g35.tr g6
  refine wp_bnd2 (Ta_readInto_wp (s := 2) (lo := 48) (hi := 50) (base := 48) ho t6 (by omega) (by omega) (by omega) (by omega) (by omega) (by omega)) (fun r6 M7 h7' => ?_)
  obtain ⟨g7, h7'⟩ := h7'
  dsimp only at g7 h7'
  rcases h7' with ⟨c4, rfl, t7, e7⟩ | ⟨c4, rfl, rfl⟩
  rotate_left
  · rw [if_pos rfl]
    exact hfail _ (i + 3) (by unfold tieR; rw [if_pos c0, if_pos c1, if_neg c2, if_pos c3, if_neg c4]) g36 t6 d6.1
  rw [if_neg one_ne0]
  have d7 := d6.st e7
  have g37 := g36.tr g7
  unfold Ta_readStrength
  have hend : ∀ (t : Mem) (s j : Nat) (f' : Nat → Int32), tieR n tb tp i = tieY tb tp (hN tb tp i - 97) (hN tb tp (i + 2) - 97) (hN tb tp (i + 3) - 48) s j → j ≤ 200 → Fr [6, 9] M t → CT t n tb tp j m → DRW M t m f' → f' 0 = nI (hN tb tp i - 97) → f' 1 = nI (hN tb tp (i + 2) - 97) → f' 2 = nI (hN tb tp (i + 3) - 48) → f' 3 = nI s → f' 4 = nI 0 → f' 5 = nI 100 → wp (β := Int32 × Mem) (bnd2 (Ta_readYears t) fun r_8 M9 => if r_8 = 0 then some (0, M9) else some (1, M9)) (fun r => Fr [6, 9] M r.2 ∧ CT r.2 n tb tp (tieR n tb tp i).2 m ∧ (∀ q, q < m * 6 → r.2 9 q = M 9 q) ∧ ((∃ g, (tieR n tb tp i).1 = some g ∧ r.1 = 1 ∧ ∀ s, s < 6 → r.2 9 (m * 6 + s) = nI (g s)) ∨ ((tieR n tb tp i).1 = none ∧ r.1 = 0))) := fun t s j f' eR hj ft ct dt k0 k1 k2 k3 k4 k5 => by
    rw [eR]
    refine wp_bnd2 (Ta_readYears_wp ho ct hj dt k0 k1 k2 k3 k4 k5) (fun r M9 h9 => ?_)
    obtain ⟨q1, q2, q3, q4⟩ := h9
    dsimp only at q1 q2 q3 q4
    rcases q4 with ⟨g, b1, rfl, b3⟩ | ⟨b1, rfl⟩
    · rw [if_neg one_ne0]
      exact wp_some ⟨ft.tr q1, q2, q3, Or.inl ⟨g, b1, rfl, b3⟩⟩
    · rw [if_pos rfl]
      exact wp_some ⟨ft.tr q1, q2, q3, Or.inr ⟨b1, rfl⟩⟩
  refine wp_bnd2 (P := fun r => Fr [6, 9] M r.2 ∧ ((∃ s j f', tieR n tb tp i = tieY tb tp (hN tb tp i - 97) (hN tb tp (i + 2) - 97) (hN tb tp (i + 3) - 48) s j ∧ j ≤ 200 ∧ CT r.2 n tb tp j m ∧ DRW M r.2 m f' ∧ f' 0 = nI (hN tb tp i - 97) ∧ f' 1 = nI (hN tb tp (i + 2) - 97) ∧ f' 2 = nI (hN tb tp (i + 3) - 48) ∧ f' 3 = nI s ∧ f' 4 = nI 0 ∧ f' 5 = nI 100 ∧ r.1 = 1) ∨ (tieR n tb tp i = (none, i + 5) ∧ CT r.2 n tb tp (i + 5) m ∧ (∀ q, q < m * 6 → r.2 9 q = M 9 q) ∧ r.1 = 0))) ?_ (fun r7 M8 h8 => ?_)
  · refine wp_bnd2 (Ta_skip_wp (c := 42) ho t7 (by omega) (by omega)) (fun r1 M1 h1 => ?_)
    obtain ⟨g1, h1⟩ := h1
    dsimp only at g1 h1
    have d1 := d7.eq (g1 9 (by decide))
    have g31 : Fr [6, 9] M M1 := g37.tr (g1.mo (by simp))
    rcases h1 with ⟨c5, rfl, t1⟩ | ⟨c5, rfl, t1⟩
    · rw [if_neg one_ne0]
      refine wp_bnd2 (Ta_readInto_wp (s := 3) (lo := 49) (hi := 57) (base := 48) ho t1 (by omega) (by omega) (by omega) (by omega) (by omega) (by omega)) (fun r2 M2 h2 => ?_)
      obtain ⟨g2, h2⟩ := h2
      dsimp only at g2 h2
      rcases h2 with ⟨c6, rfl, t2, e2⟩ | ⟨c6, rfl, rfl⟩
      · rw [if_neg one_ne0]
        refine wp_some ⟨g31.tr g2, Or.inl ⟨hN tb tp (i + 5) - 48, i + 6, _, ?_, by omega, t2, d1.st e2, ?_, ?_, ?_, ?_, ?_, ?_, rfl⟩⟩
        · unfold tieR; rw [if_pos c0, if_pos c1, if_neg c2, if_pos c3, if_pos c4, if_pos c5, if_pos c6]
        all_goals rw [hf]; rfl
      · rw [if_pos rfl]
        exact wp_some ⟨g31, Or.inr ⟨by unfold tieR; rw [if_pos c0, if_pos c1, if_neg c2, if_pos c3, if_pos c4, if_pos c5, if_neg c6], t1, d1.1, rfl⟩⟩
    · rw [if_pos rfl]
      refine wp_some ⟨g31, Or.inl ⟨1, i + 4, _, ?_, by omega, t1, d1, ?_, ?_, ?_, ?_, ?_, ?_, rfl⟩⟩
      · unfold tieR; rw [if_pos c0, if_pos c1, if_neg c2, if_pos c3, if_pos c4, if_neg c5]
      all_goals rw [hf]; rfl
  · obtain ⟨g8, h8⟩ := h8
    dsimp only at g8 h8
    rcases h8 with ⟨s, j, f', a1, a2, a3, a4, a5, a6, a7, a8, a9, a10, rfl⟩ | ⟨a1, a2, a3, rfl⟩
    · rw [if_neg one_ne0]
      exact hend M8 s j f' a1 a2 g8 a3 a4 a5 a6 a7 a8 a9 a10
    · rw [if_pos rfl]
      exact hfail _ (i + 5) a1 g8 a2 a3
