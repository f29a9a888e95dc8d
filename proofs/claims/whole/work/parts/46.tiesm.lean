/-! by hand: ties: one tie, all ties: the reference -/
def MROW (M : Mem) (u : Nat) (g : Nat → Nat) : Prop := M 43 u = nI (g 0) ∧ M 44 u = nI (g 1) ∧ M 45 u = nI (g 2) ∧ M 46 u = nI (g 3) ∧ M 47 u = nI (g 4) ∧ M 48 u = nI (g 5)
def Q1 (M0 : Mem) (n tb : Nat) (tp : Nat → Nat) (i m : Nat) (r : Int32 × Mem) : Prop := FM M0 r.2 ∧ r.2 33 13 = nI (tieR n tb tp i).2 ∧ ((∃ g, (tieR n tb tp i).1 = some g ∧ r.1 = 1 ∧ r.2 33 14 = nI (m + 1) ∧ MRC M0 r.2 m ∧ MROW r.2 m g) ∨ ((tieR n tb tp i).1 = none ∧ r.1 = 0))
theorem Q1_fail {M0 t : Mem} {n tb i m j : Nat} {tp : Nat → Nat} (e : tieR n tb tp i = (none, j)) (h : MT M0 t j m) : wp (β := Int32 × Mem) (some (0, t)) (Q1 M0 n tb tp i m) := by
  refine wp_some ?_
  unfold Q1
  rw [e]
  exact ⟨h.1, h.2.1, Or.inr ⟨rfl, rfl⟩⟩
theorem inb20 {m : Nat} (h : m < 20) : inb (nI m) 20 := (inb_nI (by omega)).mpr h
/-- the last writes -/
theorem Q1_end {M0 t : Mem} {n tb i m j a b k s v w : Nat} {tp : Nat → Nat} (hm : m < 20) (e : tieR n tb tp i = (some (fld a b k s v w), j)) (h : MT M0 t j m) (e46 : t 46 m = nI s) (e47 : t 47 m = nI v) (e48 : t 48 m = nI w) :
    wp (if inb (t 33 14) 20 then nm (wr t 43 (t 33 14) (nI a)) fun (M12 : Mem) => if inb (M12 33 14) 20 then nm (wr M12 44 (M12 33 14) (nI b)) fun (M13 : Mem) => if inb (M13 33 14) 20 then nm (wr M13 45 (M13 33 14) (nI k)) fun (M14 : Mem) => nm (st2 M14 33 14 ((M14 33 14) + 1)) fun (M15 : Mem) => some ((1 : Int32), M15) else none else none else none) (Q1 M0 n tb tp i m) := by
  have h1 := h.put (k := 43) (v := nI a) (by omega) (by omega)
  have h2 := h1.put (k := 44) (v := nI b) (by omega) (by omega)
  have h3 := h2.put (k := 45) (v := nI k) (by omega) (by omega)
  rw [h.2.2.1, if_pos (inb20 hm), nm_e', wr_nI (by omega), h1.2.2.1, if_pos (inb20 hm), nm_e', wr_nI (by omega), h2.2.2.1, if_pos (inb20 hm), nm_e', wr_nI (by omega), h3.2.2.1, nm_e', nI_1]
  refine wp_some ?_
  unfold Q1
  rw [e]
  obtain ⟨⟨q1, q2⟩, q3, q4, q5⟩ := h3
  refine ⟨⟨fun x hx => ?_, fun x hx hx2 => ?_⟩, ?_, Or.inl ⟨_, rfl, rfl, ?_, fun x x1 x2 q hq => ?_, ?_, ?_, ?_, ?_, ?_, ?_⟩⟩
  · dsimp only
    rw [st2_n (fun e => hx (by rw [e]; decide))]; exact q1 x hx
  · dsimp only
    rw [st2_s, upd_n hx2]; exact q2 x hx hx2
  · dsimp only
    rw [st2_s, upd_n (by decide)]; exact q3
  · dsimp only
    rw [st2_s, upd_s]
  · dsimp only
    rw [st2_n (by omega)]; exact q5 x x1 x2 q hq
  · dsimp only
    rw [st2_n (by decide), st2_n (by decide), st2_n (by decide), st2_s, upd_s]; rfl
  · dsimp only
    rw [st2_n (by decide), st2_n (by decide), st2_s, upd_s]; rfl
  · dsimp only
    rw [st2_n (by decide), st2_s, upd_s]; rfl
  · dsimp only
    rw [st2_n (by decide), st2_n (by decide), st2_n (by decide), st2_n (by decide)]; exact e46
  · dsimp only
    rw [st2_n (by decide), st2_n (by decide), st2_n (by decide), st2_n (by decide)]; exact e47
  · dsimp only
    rw [st2_n (by decide), st2_n (by decide), st2_n (by decide), st2_n (by decide)]; exact e48
def kEnd (a b k : Nat) (M11 : Mem) : Option (Int32 × Mem) := if inb (M11 33 14) 20 then nm (wr M11 43 (M11 33 14) (nI a)) fun (M12 : Mem) => if inb (M12 33 14) 20 then nm (wr M12 44 (M12 33 14) (nI b)) fun (M13 : Mem) => if inb (M13 33 14) 20 then nm (wr M13 45 (M13 33 14) (nI k)) fun (M14 : Mem) => nm (st2 M14 33 14 ((M14 33 14) + 1)) fun (M15 : Mem) => some (1, M15) else none else none else none
def kYear (a b k : Nat) (M9 : Mem) : Option (Int32 × Mem) := bnd2 (MD_takes 64 M9) fun r_7 M10 => jp (kEnd a b k) fun (k_2 : Mem → Option (Int32 × Mem)) => if r_7 = 0 then k_2 M10 else bnd2 (MD_years (-1) M10) fun r_8 M16 => if inb (M10 33 14) 20 then nm (wr M16 47 (M10 33 14) r_8) fun (M17 : Mem) => if inb (M17 33 14) 20 then if (rd M17 47 (M17 33 14)) < 0 then some (0, M17) else bnd2 (MD_takes 45 M17) fun r_9 M18 => if r_9 = 0 then some (0, M18) else if inb (M18 33 14) 20 then bnd2 (MD_years (rd M18 47 (M18 33 14)) M18) fun r_10 M19 => if inb (M18 33 14) 20 then nm (wr M19 48 (M18 33 14) r_10) fun (M20 : Mem) => if inb (M20 33 14) 20 then if 0 ≤ (rd M20 48 (M20 33 14)) then k_2 M20 else some (0, M20) else none else none else none else none else none
set_option maxHeartbeats 1000000 in
theorem kYear_wp {M0 t : Mem} {n tb i m j a b k s : Nat} {tp : Nat → Nat} (hb : MB M0 n tb tp) (hm : m < 20) (e : tieR n tb tp i = tieY tb tp a b k s j) (hj : j ≤ 200) (h : MT M0 t j m) (e46 : t 46 m = nI s) (e47 : t 47 m = nI 0) (e48 : t 48 m = nI 100) : wp (kYear a b k t) (Q1 M0 n tb tp i m) := by
  have i20 := inb20 hm
  unfold kYear
  refine wp_bnd2 (MD_takes_wp (c := 64) hb h (by omega) (by omega)) (fun r7 M10 h10 => ?_)
  obtain ⟨f10, h10⟩ := h10
  dsimp only at f10 h10
  rw [jp_e]
  have x46 : M10 46 m = nI s := by rw [f10 46 (by decide)]; exact e46
  have x48 : M10 48 m = nI 100 := by rw [f10 48 (by decide)]; exact e48
  rcases h10 with ⟨c1, rfl, t10⟩ | ⟨c1, rfl, t10⟩
  · rw [if_neg one_ne0]
    refine wp_bnd2 (MD_years_wp (lo := 0) (b := -1) hb t10 (by omega) rfl) (fun r8 M16 h16 => ?_)
    obtain ⟨f16, h16⟩ := h16
    dsimp only at f16 h16
    have t16 : ∃ j2, MT M0 M16 j2 m := by
      rcases h16 with ⟨v, j2, -, -, t⟩ | ⟨-, -, t⟩ <;> exact ⟨_, t⟩
    rw [t10.2.2.1, if_pos i20, nm_e', wr_nI (by omega)]
    have z14 : ∀ v, st2 M16 47 m v 33 14 = nI m := fun v => by
      obtain ⟨j2, t⟩ := t16
      rw [st2_n (by decide)]; exact t.2.2.1
    rw [z14, if_pos i20, rd_nI (by omega), st2_s, upd_s]
    rcases h16 with ⟨v, j2, y1, rfl, t16⟩ | ⟨y1, rfl, t16⟩
    · have yl := year_le y1
      rw [if_neg (nI_pos (by omega))]
      have t17 : MT M0 (st2 M16 47 m (nI v)) j2 m := t16.put (by omega) (by omega)
      refine wp_bnd2 (MD_takes_wp (c := 45) hb t17 (by omega) (by omega)) (fun r9 M18 h18 => ?_)
      obtain ⟨f18, h18⟩ := h18
      dsimp only at f18 h18
      have y47 : M18 47 m = nI v := by rw [f18 47 (by decide), st2_s, upd_s]
      have y46 : M18 46 m = nI s := by rw [f18 46 (by decide), st2_n (by decide), f16 46 (by decide)]; exact x46
      rcases h18 with ⟨c3, rfl, t18⟩ | ⟨c3, rfl, t18⟩
      · rw [if_neg one_ne0, t18.2.2.1, if_pos i20, rd_nI (by omega), y47]
        refine wp_bnd2 (MD_years_wp (lo := v + 1) (b := nI v) hb t18 (by omega) (by rw [nI_toInt (by omega)]; omega)) (fun r10 M19 h19 => ?_)
        obtain ⟨f19, h19⟩ := h19
        dsimp only at f19 h19
        have t19 : ∃ j2, MT M0 M19 j2 m := by
          rcases h19 with ⟨v, j2, -, -, t⟩ | ⟨-, -, t⟩ <;> exact ⟨_, t⟩
        have w14 : ∀ v, st2 M19 48 m v 33 14 = nI m := fun v => by
          obtain ⟨j2, t⟩ := t19
          rw [st2_n (by decide)]; exact t.2.2.1
        rw [if_pos i20, nm_e', wr_nI (by omega), w14, if_pos i20, rd_nI (by omega), st2_s, upd_s]
        rcases h19 with ⟨w, j3, y3, rfl, t19⟩ | ⟨y3, rfl, t19⟩
        · have yl3 := year_le y3
          rw [if_pos (nI_nn (by omega))]
          have eR : tieR n tb tp i = (some (fld a b k s v w), j3) := by
            rw [e]; unfold tieY; rw [if_pos c1, y1]; dsimp only; rw [if_pos c3, y3]
          refine Q1_end hm eR (t19.put (by omega) (by omega)) ?_ ?_ (by rw [st2_s, upd_s])
          · rw [st2_n (by decide), f19 46 (by decide)]; exact y46
          · rw [st2_n (by decide), f19 47 (by decide)]; exact y47
        · rw [if_neg m1_nn]
          have eR : tieR n tb tp i = (none, j2 + 1) := by
            rw [e]; unfold tieY; rw [if_pos c1, y1]; dsimp only; rw [if_pos c3, y3]
          exact Q1_fail eR (t19.put (by omega) (by omega))
      · rw [if_pos rfl]
        have eR : tieR n tb tp i = (none, j2) := by
          rw [e]; unfold tieY; rw [if_pos c1, y1]; dsimp only; rw [if_neg c3]
        exact Q1_fail eR t18
    · rw [if_pos m1_neg]
      have eR : tieR n tb tp i = (none, j + 1) := by
        rw [e]; unfold tieY; rw [if_pos c1, y1]
      exact Q1_fail eR (t16.put (by omega) (by omega))
  · rw [if_pos rfl]
    have eR : tieR n tb tp i = (some (fld a b k s 0 100), j) := by
      rw [e]; unfold tieY; rw [if_neg c1]
    exact Q1_end hm eR t10 x46 (by rw [f10 47 (by decide)]; exact e47) x48
set_option maxHeartbeats 1000000 in
theorem MD_oneTie_wp {M0 M : Mem} {n tb i m : Nat} {tp : Nat → Nat} (hb : MB M0 n tb tp) (hm : m < 20) (h : MT M0 M i m) (hi : i ≤ 100) : wp (MD_oneTie M) (Q1 M0 n tb tp i m) := by
  have i20 := inb20 hm
  have h7 := hb.1
  have h1n := hb.2.1
  have hP : ∀ {t : Mem} {j : Nat}, MT M0 t j m → j ≤ 500 → wp (MD_takesIn 97 0 (t 33 8 - 1) t) (fun r => Fr [33] t r.2 ∧ (((97 ≤ hN tb tp j ∧ hN tb tp j < 97 + n) ∧ r.1 = nI (hN tb tp j - 97) ∧ MT M0 r.2 (j + 1) m) ∨ (¬ (97 ≤ hN tb tp j ∧ hN tb tp j < 97 + n) ∧ r.1 = -1 ∧ r.2 = t))) := fun {t j} ct hj => by
    obtain ⟨b1, b2, b3⟩ := ct.tb hb
    obtain ⟨n', rfl⟩ : ∃ n', n = n' + 1 := ⟨n - 1, by omega⟩
    rw [b2, nI_pred]
    refine wp_mono (MD_takesIn_wp (base := 97) (lo := 0) (hi := n') hb ct (by omega) (by omega) (by omega) (by omega)) (fun r hr => ⟨hr.1, ?_⟩)
    rcases hr.2 with ⟨x1, x2, x3⟩ | ⟨x1, x2⟩
    · exact Or.inl ⟨by omega, x2, x3⟩
    · exact Or.inr ⟨by omega, x2⟩
  unfold MD_oneTie
  refine wp_bnd2 (hP h (by omega)) (fun r1 M1 h1 => ?_)
  obtain ⟨f1, h1⟩ := h1
  dsimp only at f1 h1
  rcases h1 with ⟨c0, rfl, t1⟩ | ⟨c0, rfl, rfl⟩
  rotate_left
  · rw [if_pos m1_neg]
    exact Q1_fail (by unfold tieR; rw [if_neg c0]) h
  rw [if_neg (nI_pos (by omega))]
  refine wp_bnd2 (MD_takes_wp (c := 62) hb t1 (by omega) (by omega)) (fun r2 M2 h2 => ?_)
  obtain ⟨f2, h2⟩ := h2
  dsimp only at f2 h2
  rcases h2 with ⟨c1, rfl, t2⟩ | ⟨c1, rfl, t2⟩
  rotate_left
  · rw [if_pos rfl]
    exact Q1_fail (by unfold tieR; rw [if_pos c0, if_neg c1]) t2
  rw [if_neg one_ne0, MD_sign_eq hb t2 (by omega), bind_s, show (97 : Int32) + nI (hN tb tp i - 97) = nI (hN tb tp i) by rw [show (97 : Int32) = nI 97 from rfl, nI_add]; congr 1; omega]
  by_cases c2 : hN tb tp (i + 2) = hN tb tp i
  · rw [if_pos ((hI_eq hb.2.2.2.1 (by omega)).mpr c2)]
    exact Q1_fail (by unfold tieR; rw [if_pos c0, if_pos c1, if_pos c2]) t2
  rw [if_neg (fun z => c2 ((hI_eq hb.2.2.2.1 (by omega)).mp z))]
  refine wp_bnd2 (hP t2 (by omega)) (fun r4 M3 h3 => ?_)
  obtain ⟨f3, h3⟩ := h3
  dsimp only at f3 h3
  rcases h3 with ⟨c3, rfl, t3⟩ | ⟨c3, rfl, rfl⟩
  rotate_left
  · rw [if_neg m1_nn]
    exact Q1_fail (by unfold tieR; rw [if_pos c0, if_pos c1, if_neg c2, if_neg c3]) t2
  rw [if_pos (nI_nn (by omega))]
  refine wp_bnd2 (MD_takesIn_wp (base := 48) (lo := 0) (hi := 2) hb t3 (by omega) (by omega) (by omega) (by omega)) (fun r5 M4 h4 => ?_)
  obtain ⟨f4, h4⟩ := h4
  dsimp only at f4 h4
  rcases h4 with ⟨c4, rfl, t4⟩ | ⟨c4, rfl, rfl⟩
  rotate_left
  · rw [if_neg m1_nn]
    exact Q1_fail (by unfold tieR; rw [if_pos c0, if_pos c1, if_neg c2, if_pos c3, if_neg (by omega)]) t3
  have c4' : 48 ≤ hN tb tp (i + 3) ∧ hN tb tp (i + 3) ≤ 50 := by omega
  have t5 := t4.put (k := 46) (v := 1) (by omega) (by omega)
  have t6 := t5.put (k := 47) (v := 0) (by omega) (by omega)
  have t7 := t6.put (k := 48) (v := 100) (by omega) (by omega)
  rw [if_pos (nI_nn (by omega)), t4.2.2.1, if_pos i20, nm_e', wr_nI (by omega), t5.2.2.1, if_pos i20, nm_e', wr_nI (by omega), t6.2.2.1, if_pos i20, nm_e', wr_nI (by omega)]
  obtain ⟨M7, hM7⟩ : ∃ M7, M7 = st2 (st2 (st2 M4 46 m 1) 47 m 0) 48 m 100 := ⟨_, rfl⟩
  rw [← hM7]
  rw [← hM7] at t7
  have y46 : M7 46 m = nI 1 := by rw [hM7, st2_n (by decide), st2_n (by decide), st2_s, upd_s]; rfl
  have y47 : M7 47 m = nI 0 := by rw [hM7, st2_n (by decide), st2_s, upd_s]; rfl
  have y48 : M7 48 m = nI 100 := by rw [hM7, st2_s, upd_s]; rfl
  refine wp_bnd2 (MD_takes_wp (c := 42) hb t7 (by omega) (by omega)) (fun r6 M8 h8 => ?_)
  obtain ⟨f8, h8⟩ := h8
  dsimp only at f8 h8
  rw [jp_e]
  have z47 : M8 47 m = nI 0 := by rw [f8 47 (by decide)]; exact y47
  have z48 : M8 48 m = nI 100 := by rw [f8 48 (by decide)]; exact y48
  rcases h8 with ⟨c5, rfl, t8⟩ | ⟨c5, rfl, t8⟩
  · rw [if_neg one_ne0]
    refine wp_bnd2 (MD_takesIn_wp (base := 48) (lo := 1) (hi := 9) hb t8 (by omega) (by omega) (by omega) (by omega)) (fun r11 M21 h21 => ?_)
    obtain ⟨f21, h21⟩ := h21
    dsimp only at f21 h21
    have w14 : ∀ v, st2 M21 46 m v 33 14 = nI m := fun v => by
      rw [st2_n (by decide)]
      rcases h21 with ⟨-, -, t⟩ | ⟨-, -, rfl⟩
      · exact t.2.2.1
      · exact t8.2.2.1
    rw [t8.2.2.1, if_pos i20, nm_e', wr_nI (by omega), w14, if_pos i20, rd_nI (by omega), st2_s, upd_s]
    rcases h21 with ⟨c6, rfl, t21⟩ | ⟨c6, rfl, rfl⟩
    · rw [if_pos (nI_nn (by omega))]
      refine kYear_wp (s := hN tb tp (i + 5) - 48) (j := i + 6) hb hm ?_ (by omega) (t21.put (by omega) (by omega)) (by rw [st2_s, upd_s]) ?_ ?_
      · unfold tieR; rw [if_pos c0, if_pos c1, if_neg c2, if_pos c3, if_pos c4', if_pos c5, if_pos (by omega)]
      · rw [st2_n (by decide), f21 47 (by decide)]; exact z47
      · rw [st2_n (by decide), f21 48 (by decide)]; exact z48
    · rw [if_neg m1_nn]
      exact Q1_fail (by unfold tieR; rw [if_pos c0, if_pos c1, if_neg c2, if_pos c3, if_pos c4', if_pos c5, if_neg (by omega)]) (t8.put (by omega) (by omega))
  · rw [if_pos rfl]
    refine kYear_wp (s := 1) (j := i + 4) hb hm ?_ (by omega) t8 (by rw [f8 46 (by decide)]; exact y46) z47 z48
    unfold tieR; rw [if_pos c0, if_pos c1, if_neg c2, if_pos c3, if_pos c4', if_neg c5]
